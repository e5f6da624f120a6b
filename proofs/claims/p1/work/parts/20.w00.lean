set_option maxHeartbeats 4000000 in
set_option maxRecDepth 100000 in
theorem c_X0_init_v0 (l : Launch) (dC : Nat → ClassId) (dI : Nat → Nat → Nat) (cI cJ cZ cM : ClassId) (p0 : Nat)   : k_Mv l yX0_init wsX0_init ({ frames := 1, cells := 0, slots := 0, locals := 40 }) (dC, dI) vwCl (tyy cI cJ cZ cM) [] [.ref p0] 0 0 (fun (u9 : Unit) => []) (fun (u9 : Unit) => True) := by
  refine fun sz => k_enter (cc := cX0_init) (maxL := 1) (ret := none) (Qc := fun A => va_Qv (fun (u9 : Unit) => True) (fun u => k_B (dC, dI) vwCl (tyy cI cJ cZ cM) A ((fun (u9 : Unit) => []) u)) A) sz (by decide +kernel) rfl (Nat.le_of_ble_eq_true rfl) (fun p e s m args below meth c A ls H locs B hP hD hS hl => ?_)
  obtain ⟨hx, hb, hml, hown, hts, hr, hlk, hnm, hK, hA, hN, hC⟩ := id B
  have hown : s.vm.findClass RX0 = some m.cls := hown
  have hl : lv_has ls 1 [(0, .ref p0)] := hl
  have w_0 : (Cond.methodLink RX0 1 objectInit).before args s = true := hts _ (List.mem_of_getElem? (i := 1) rfl)
  have w_1 : (Cond.instanceMethod objectInit).before args s = true := hts _ (List.mem_of_getElem? (i := 2) rfl)
  have w_2 : (Cond.code objectInit ⟨#[0xb1]⟩ 1 none).before args s = true := hts _ (List.mem_of_getElem? (i := 3) rfl)
  refine lv_aload_n hx hb dX0_init_0 rfl (lv_at hl 0 rfl) ?_
  refine W.objInit hx hb hown w_0 w_1 w_2 rfl (by rw [hml]; exact hl.1) rfl dX0_init_1 (Nat.le_of_ble_eq_true rfl) (Nat.le_of_ble_eq_true rfl) ?_
  refine W.eq (g2 := F0 m 4 ls []) rfl ?_
  exact k_rv B hP hD hS dX0_init_4 () [] rfl rfl (Nat.le_of_ble_eq_true rfl) (Nat.le_of_ble_eq_true rfl) trivial
set_option maxHeartbeats 4000000 in
set_option maxRecDepth 100000 in
theorem c_J7_fill_53178_v0 (l : Launch) (dC : Nat → ClassId) (dI : Nat → Nat → Nat) (cI cJ cZ cM : ClassId) (p0 : Nat)   : k_Mv l yJ7_fill_53178 wsJ7_fill_53178 ({ frames := 1, cells := 0, slots := 0, locals := 40 }) (dC, dI) vwCl (tyy cI cJ cZ cM) [(p0, .inl (cI, 5, .inl (fun _ => 0)))] [.ref p0, .int (-1)] 0 0 (fun (u9 : Unit) => [(p0, .inl (cI, 5, .inl (fun _ => (-1))))]) (fun (u9 : Unit) => True) := by
  refine fun sz => k_enter (cc := cJ7_fill_53178) (maxL := 4) (ret := none) (Qc := fun A => va_Qv (fun (u9 : Unit) => True) (fun u => k_B (dC, dI) vwCl (tyy cI cJ cZ cM) A ((fun (u9 : Unit) => [(p0, .inl (cI, 5, .inl (fun _ => (-1))))]) u)) A) sz (by decide +kernel) rfl (Nat.le_of_ble_eq_true rfl) (fun p e s m args below meth c A ls H locs B hP hD hS hl => ?_)
  obtain ⟨hx, hb, hml, hown, hts, hr, hlk, hnm, hK, hA, hN, hC⟩ := id B
  have hown : s.vm.findClass RJ7 = some m.cls := hown
  have hl : lv_has ls 4 [(0, .ref p0), (1, .int (-1))] := hl
  refine lv_iconst (v := 0) hx hb dJ7_fill_53178_0 (by decide +kernel) ?_
  refine lv_istore_n (lv' := [(2, .int 0), (0, .ref p0), (1, .int (-1))]) hx hb dJ7_fill_53178_1 rfl hl (by decide) rfl (fun ls hl => ?_)
  refine lv_aload_n hx hb dJ7_fill_53178_2 rfl (lv_at hl 1 rfl) ?_
  refine va_alen (v := 5) hx hb hK hP 0 0 rfl rfl rfl dJ7_fill_53178_3 ?_
  refine lv_istore_n (lv' := [(3, .int 5), (2, .int 0), (0, .ref p0), (1, .int (-1))]) hx hb dJ7_fill_53178_4 rfl hl (by decide) rfl (fun ls hl => ?_)
  have loop_k_1 : ∀ (n_k_1 : Nat) (kk_1 : Nat) (fk_1 : Nat → Int32) (h2k_1 : kk_1 ≤ 5) (h3k_1 : ∀ j, j < kk_1 → fk_1 j = (-1)) (hn_k_1 : 5 - kk_1 < n_k_1) (H : Heap) (locs : List Loc) (ls : Array Slot), va_P (dC, dI) vwCl [(p0, .inl (cI, 5, .inl fk_1))] H → va_D A [(p0, .inl (cI, 5, .inl fk_1))] → va_S A s.heap H locs → lv_has ls 4 [(3, .int 5), (2, .int (nI kk_1)), (0, .ref p0), (1, .int (-1))] → W p l e ({ frames := 1, cells := 0, slots := 0, locals := 40 }) s m args below meth c H locs 0 0 (MQ below (va_Qv (fun (u9 : Unit) => True) (fun u => k_B (dC, dI) vwCl (tyy cI cJ cZ cM) A ((fun (u9 : Unit) => [(p0, .inl (cI, 5, .inl (fun _ => (-1))))]) u)) A) args s 0 0 A) (F0 m 5 ls []) := by
    intro n_k_1
    induction n_k_1 with
    | zero => intro kk_1 fk_1 h2k_1 h3k_1 hn_k_1; exact absurd hn_k_1 (Nat.not_lt_zero _)
    | succ n_k_1 ih_k_1 =>
      intro kk_1 fk_1 h2k_1 h3k_1 hn_k_1 H locs ls hP hD hS hl
      refine lv_iload_n hx hb dJ7_fill_53178_5 rfl (lv_at hl 1 rfl) ?_
      refine lv_iload_n hx hb dJ7_fill_53178_6 rfl (lv_at hl 0 rfl) ?_
      refine lv_icmp_ge (tgt := 20) hx hb dJ7_fill_53178_7 (by decide) (fun c_2 => ?_) (fun c_2 => ?_)
      · have c_2 : 5 ≤ ((kk_1 : Nat) : Int) := k_leT (by decide +kernel) (nI_toInt (by omega)) c_2
        obtain rfl : kk_1 = 5 := by omega
        have hl : lv_has ls 4 [(3, .int 5), (2, .int 5), (0, .ref p0), (1, .int (-1))] := hl
        have hP : va_P (dC, dI) vwCl [(p0, .inl (cI, 5, .inl fk_1))] H := hP
        have hD : va_D A [(p0, .inl (cI, 5, .inl fk_1))] := hD
        have hP : va_P (dC, dI) vwCl [(p0, .inl (cI, 5, .inl (fun _ => (-1))))] H := k_contI (g := fun _ => (-1)) hP 0 rfl h3k_1 rfl
        have hD : va_D A [(p0, .inl (cI, 5, .inl (fun _ => (-1))))] := k_contD hD 0 rfl rfl
        exact k_rv B hP hD hS dJ7_fill_53178_20 () [0] rfl rfl (Nat.le_of_ble_eq_true rfl) (Nat.le_of_ble_eq_true rfl) trivial
      · have c_2 : ((kk_1 : Nat) : Int) < 5 := k_leF (by decide +kernel) (nI_toInt (by omega)) c_2
        refine lv_aload_n hx hb dJ7_fill_53178_10 rfl (lv_at hl 2 rfl) ?_
        refine lv_iload_n hx hb dJ7_fill_53178_11 rfl (lv_at hl 1 rfl) ?_
        refine lv_iload_n hx hb dJ7_fill_53178_12 rfl (lv_at hl 3 rfl) ?_
        refine k_iast (g := (upd fk_1 kk_1 (-1))) (ws' := [(p0, .inl (cI, 5, .inl (upd fk_1 kk_1 (-1))))]) hx hb hK hP hD hS 0 0 kk_1 rfl rfl rfl (by omega) (Nat.le_of_ble_eq_true rfl) rfl rfl dJ7_fill_53178_13 (fun H locs hP hD hS => ?_)
        refine lv_iinc (v := (nI (kk_1 + 1))) (lv' := [(2, .int (nI (kk_1 + 1))), (3, .int 5), (0, .ref p0), (1, .int (-1))]) hx hb dJ7_fill_53178_14 hl (k := 1) rfl (nI_1 _) (by decide) rfl (fun ls hl => ?_)
        refine lv_goto (tgt := 5) hx hb dJ7_fill_53178_17 (by decide) ?_
        exact ih_k_1 (kk_1 + 1) (upd fk_1 kk_1 (-1)) (by omega) (k_fillS h3k_1) (by omega) H locs ls (hP.sub [0] rfl) (hD.sub [0] (by decide) rfl) hS (lv_sub hl [1, 0, 2, 3] rfl)
  exact loop_k_1 _ 0 (fun _ => 0) (Nat.zero_le _) (fun j hj => absurd hj (Nat.not_lt_zero j)) (Nat.lt_succ_self _) H locs ls hP hD hS hl
set_option maxHeartbeats 4000000 in
set_option maxRecDepth 100000 in
theorem c_J7_fill_d0a16_v0 (l : Launch) (dC : Nat → ClassId) (dI : Nat → Nat → Nat) (cI cJ cZ cM : ClassId) (p0 : Nat)   : k_Mv l yJ7_fill_d0a16 wsJ7_fill_d0a16 ({ frames := 1, cells := 0, slots := 0, locals := 40 }) (dC, dI) vwCl (tyy cI cJ cZ cM) [(p0, .inl (cJ, 13, .inr (.inl (fun _ => 0))))] [.ref p0, .long (-1)] 0 0 (fun (u9 : Unit) => [(p0, .inl (cJ, 13, .inr (.inl (fun _ => (-1)))))]) (fun (u9 : Unit) => True) := by
  refine fun sz => k_enter (cc := cJ7_fill_d0a16) (maxL := 5) (ret := none) (Qc := fun A => va_Qv (fun (u9 : Unit) => True) (fun u => k_B (dC, dI) vwCl (tyy cI cJ cZ cM) A ((fun (u9 : Unit) => [(p0, .inl (cJ, 13, .inr (.inl (fun _ => (-1)))))]) u)) A) sz (by decide +kernel) rfl (Nat.le_of_ble_eq_true rfl) (fun p e s m args below meth c A ls H locs B hP hD hS hl => ?_)
  obtain ⟨hx, hb, hml, hown, hts, hr, hlk, hnm, hK, hA, hN, hC⟩ := id B
  have hown : s.vm.findClass RJ7 = some m.cls := hown
  have hl : lv_has ls 5 [(0, .ref p0), (1, .long (-1))] := hl
  refine lv_iconst (v := 0) hx hb dJ7_fill_d0a16_0 (by decide +kernel) ?_
  refine lv_istore_n (lv' := [(3, .int 0), (0, .ref p0), (1, .long (-1))]) hx hb dJ7_fill_d0a16_1 rfl hl (by decide) rfl (fun ls hl => ?_)
  refine lv_aload_n hx hb dJ7_fill_d0a16_2 rfl (lv_at hl 1 rfl) ?_
  refine va_alen (v := 13) hx hb hK hP 0 1 rfl rfl rfl dJ7_fill_d0a16_3 ?_
  refine lv_istore (lv' := [(4, .int 13), (3, .int 0), (0, .ref p0), (1, .long (-1))]) hx hb dJ7_fill_d0a16_4 hl (by decide) rfl (fun ls hl => ?_)
  have loop_k_1 : ∀ (n_k_1 : Nat) (kk_1 : Nat) (fk_1 : Nat → Int64) (h2k_1 : kk_1 ≤ 13) (h3k_1 : ∀ j, j < kk_1 → fk_1 j = (-1)) (hn_k_1 : 13 - kk_1 < n_k_1) (H : Heap) (locs : List Loc) (ls : Array Slot), va_P (dC, dI) vwCl [(p0, .inl (cJ, 13, .inr (.inl fk_1)))] H → va_D A [(p0, .inl (cJ, 13, .inr (.inl fk_1)))] → va_S A s.heap H locs → lv_has ls 5 [(4, .int 13), (3, .int (nI kk_1)), (0, .ref p0), (1, .long (-1))] → W p l e ({ frames := 1, cells := 0, slots := 0, locals := 40 }) s m args below meth c H locs 0 0 (MQ below (va_Qv (fun (u9 : Unit) => True) (fun u => k_B (dC, dI) vwCl (tyy cI cJ cZ cM) A ((fun (u9 : Unit) => [(p0, .inl (cJ, 13, .inr (.inl (fun _ => (-1)))))]) u)) A) args s 0 0 A) (F0 m 6 ls []) := by
    intro n_k_1
    induction n_k_1 with
    | zero => intro kk_1 fk_1 h2k_1 h3k_1 hn_k_1; exact absurd hn_k_1 (Nat.not_lt_zero _)
    | succ n_k_1 ih_k_1 =>
      intro kk_1 fk_1 h2k_1 h3k_1 hn_k_1 H locs ls hP hD hS hl
      refine lv_iload_n hx hb dJ7_fill_d0a16_6 rfl (lv_at hl 1 rfl) ?_
      refine lv_iload hx hb dJ7_fill_d0a16_7 (lv_at hl 0 rfl) ?_
      refine lv_icmp_ge (tgt := 22) hx hb dJ7_fill_d0a16_9 (by decide) (fun c_2 => ?_) (fun c_2 => ?_)
      · have c_2 : 13 ≤ ((kk_1 : Nat) : Int) := k_leT (by decide +kernel) (nI_toInt (by omega)) c_2
        obtain rfl : kk_1 = 13 := by omega
        have hl : lv_has ls 5 [(4, .int 13), (3, .int 13), (0, .ref p0), (1, .long (-1))] := hl
        have hP : va_P (dC, dI) vwCl [(p0, .inl (cJ, 13, .inr (.inl fk_1)))] H := hP
        have hD : va_D A [(p0, .inl (cJ, 13, .inr (.inl fk_1)))] := hD
        have hP : va_P (dC, dI) vwCl [(p0, .inl (cJ, 13, .inr (.inl (fun _ => (-1)))))] H := k_contJ (g := fun _ => (-1)) hP 0 rfl h3k_1 rfl
        have hD : va_D A [(p0, .inl (cJ, 13, .inr (.inl (fun _ => (-1)))))] := k_contD hD 0 rfl rfl
        exact k_rv B hP hD hS dJ7_fill_d0a16_22 () [0] rfl rfl (Nat.le_of_ble_eq_true rfl) (Nat.le_of_ble_eq_true rfl) trivial
      · have c_2 : ((kk_1 : Nat) : Int) < 13 := k_leF (by decide +kernel) (nI_toInt (by omega)) c_2
        refine lv_aload_n hx hb dJ7_fill_d0a16_12 rfl (lv_at hl 2 rfl) ?_
        refine lv_iload_n hx hb dJ7_fill_d0a16_13 rfl (lv_at hl 1 rfl) ?_
        refine lv_lload_n hx hb dJ7_fill_d0a16_14 rfl (lv_at hl 3 rfl) ?_
        refine k_last (g := (vp_updL fk_1 kk_1 (-1))) (ws' := [(p0, .inl (cJ, 13, .inr (.inl (vp_updL fk_1 kk_1 (-1)))))]) hx hb hK hP hD hS 0 1 kk_1 rfl rfl rfl (by omega) (Nat.le_of_ble_eq_true rfl) rfl rfl dJ7_fill_d0a16_15 (fun H locs hP hD hS => ?_)
        refine lv_iinc (v := (nI (kk_1 + 1))) (lv' := [(3, .int (nI (kk_1 + 1))), (4, .int 13), (0, .ref p0), (1, .long (-1))]) hx hb dJ7_fill_d0a16_16 hl (k := 1) rfl (nI_1 _) (by decide) rfl (fun ls hl => ?_)
        refine lv_goto (tgt := 6) hx hb dJ7_fill_d0a16_19 (by decide) ?_
        exact ih_k_1 (kk_1 + 1) (vp_updL fk_1 kk_1 (-1)) (by omega) (k_fillSL h3k_1) (by omega) H locs ls (hP.sub [0] rfl) (hD.sub [0] (by decide) rfl) hS (lv_sub hl [1, 0, 2, 3] rfl)
  exact loop_k_1 _ 0 (fun _ => 0) (Nat.zero_le _) (fun j hj => absurd hj (Nat.not_lt_zero j)) (Nat.lt_succ_self _) H locs ls hP hD hS hl
set_option maxHeartbeats 4000000 in
set_option maxRecDepth 100000 in
theorem c_J7_fill_53178_v1 (l : Launch) (dC : Nat → ClassId) (dI : Nat → Nat → Nat) (cI cJ cZ cM : ClassId) (p0 : Nat)   : k_Mv l yJ7_fill_53178 wsJ7_fill_53178 ({ frames := 1, cells := 0, slots := 0, locals := 40 }) (dC, dI) vwCl (tyy cI cJ cZ cM) [(p0, .inl (cI, 9, .inl (fun _ => 0)))] [.ref p0, .int (-1)] 0 0 (fun (u9 : Unit) => [(p0, .inl (cI, 9, .inl (fun _ => (-1))))]) (fun (u9 : Unit) => True) := by
  refine fun sz => k_enter (cc := cJ7_fill_53178) (maxL := 4) (ret := none) (Qc := fun A => va_Qv (fun (u9 : Unit) => True) (fun u => k_B (dC, dI) vwCl (tyy cI cJ cZ cM) A ((fun (u9 : Unit) => [(p0, .inl (cI, 9, .inl (fun _ => (-1))))]) u)) A) sz (by decide +kernel) rfl (Nat.le_of_ble_eq_true rfl) (fun p e s m args below meth c A ls H locs B hP hD hS hl => ?_)
  obtain ⟨hx, hb, hml, hown, hts, hr, hlk, hnm, hK, hA, hN, hC⟩ := id B
  have hown : s.vm.findClass RJ7 = some m.cls := hown
  have hl : lv_has ls 4 [(0, .ref p0), (1, .int (-1))] := hl
  refine lv_iconst (v := 0) hx hb dJ7_fill_53178_0 (by decide +kernel) ?_
  refine lv_istore_n (lv' := [(2, .int 0), (0, .ref p0), (1, .int (-1))]) hx hb dJ7_fill_53178_1 rfl hl (by decide) rfl (fun ls hl => ?_)
  refine lv_aload_n hx hb dJ7_fill_53178_2 rfl (lv_at hl 1 rfl) ?_
  refine va_alen (v := 9) hx hb hK hP 0 0 rfl rfl rfl dJ7_fill_53178_3 ?_
  refine lv_istore_n (lv' := [(3, .int 9), (2, .int 0), (0, .ref p0), (1, .int (-1))]) hx hb dJ7_fill_53178_4 rfl hl (by decide) rfl (fun ls hl => ?_)
  have loop_k_1 : ∀ (n_k_1 : Nat) (kk_1 : Nat) (fk_1 : Nat → Int32) (h2k_1 : kk_1 ≤ 9) (h3k_1 : ∀ j, j < kk_1 → fk_1 j = (-1)) (hn_k_1 : 9 - kk_1 < n_k_1) (H : Heap) (locs : List Loc) (ls : Array Slot), va_P (dC, dI) vwCl [(p0, .inl (cI, 9, .inl fk_1))] H → va_D A [(p0, .inl (cI, 9, .inl fk_1))] → va_S A s.heap H locs → lv_has ls 4 [(3, .int 9), (2, .int (nI kk_1)), (0, .ref p0), (1, .int (-1))] → W p l e ({ frames := 1, cells := 0, slots := 0, locals := 40 }) s m args below meth c H locs 0 0 (MQ below (va_Qv (fun (u9 : Unit) => True) (fun u => k_B (dC, dI) vwCl (tyy cI cJ cZ cM) A ((fun (u9 : Unit) => [(p0, .inl (cI, 9, .inl (fun _ => (-1))))]) u)) A) args s 0 0 A) (F0 m 5 ls []) := by
    intro n_k_1
    induction n_k_1 with
    | zero => intro kk_1 fk_1 h2k_1 h3k_1 hn_k_1; exact absurd hn_k_1 (Nat.not_lt_zero _)
    | succ n_k_1 ih_k_1 =>
      intro kk_1 fk_1 h2k_1 h3k_1 hn_k_1 H locs ls hP hD hS hl
      refine lv_iload_n hx hb dJ7_fill_53178_5 rfl (lv_at hl 1 rfl) ?_
      refine lv_iload_n hx hb dJ7_fill_53178_6 rfl (lv_at hl 0 rfl) ?_
      refine lv_icmp_ge (tgt := 20) hx hb dJ7_fill_53178_7 (by decide) (fun c_2 => ?_) (fun c_2 => ?_)
      · have c_2 : 9 ≤ ((kk_1 : Nat) : Int) := k_leT (by decide +kernel) (nI_toInt (by omega)) c_2
        obtain rfl : kk_1 = 9 := by omega
        have hl : lv_has ls 4 [(3, .int 9), (2, .int 9), (0, .ref p0), (1, .int (-1))] := hl
        have hP : va_P (dC, dI) vwCl [(p0, .inl (cI, 9, .inl fk_1))] H := hP
        have hD : va_D A [(p0, .inl (cI, 9, .inl fk_1))] := hD
        have hP : va_P (dC, dI) vwCl [(p0, .inl (cI, 9, .inl (fun _ => (-1))))] H := k_contI (g := fun _ => (-1)) hP 0 rfl h3k_1 rfl
        have hD : va_D A [(p0, .inl (cI, 9, .inl (fun _ => (-1))))] := k_contD hD 0 rfl rfl
        exact k_rv B hP hD hS dJ7_fill_53178_20 () [0] rfl rfl (Nat.le_of_ble_eq_true rfl) (Nat.le_of_ble_eq_true rfl) trivial
      · have c_2 : ((kk_1 : Nat) : Int) < 9 := k_leF (by decide +kernel) (nI_toInt (by omega)) c_2
        refine lv_aload_n hx hb dJ7_fill_53178_10 rfl (lv_at hl 2 rfl) ?_
        refine lv_iload_n hx hb dJ7_fill_53178_11 rfl (lv_at hl 1 rfl) ?_
        refine lv_iload_n hx hb dJ7_fill_53178_12 rfl (lv_at hl 3 rfl) ?_
        refine k_iast (g := (upd fk_1 kk_1 (-1))) (ws' := [(p0, .inl (cI, 9, .inl (upd fk_1 kk_1 (-1))))]) hx hb hK hP hD hS 0 0 kk_1 rfl rfl rfl (by omega) (Nat.le_of_ble_eq_true rfl) rfl rfl dJ7_fill_53178_13 (fun H locs hP hD hS => ?_)
        refine lv_iinc (v := (nI (kk_1 + 1))) (lv' := [(2, .int (nI (kk_1 + 1))), (3, .int 9), (0, .ref p0), (1, .int (-1))]) hx hb dJ7_fill_53178_14 hl (k := 1) rfl (nI_1 _) (by decide) rfl (fun ls hl => ?_)
        refine lv_goto (tgt := 5) hx hb dJ7_fill_53178_17 (by decide) ?_
        exact ih_k_1 (kk_1 + 1) (upd fk_1 kk_1 (-1)) (by omega) (k_fillS h3k_1) (by omega) H locs ls (hP.sub [0] rfl) (hD.sub [0] (by decide) rfl) hS (lv_sub hl [1, 0, 2, 3] rfl)
  exact loop_k_1 _ 0 (fun _ => 0) (Nat.zero_le _) (fun j hj => absurd hj (Nat.not_lt_zero j)) (Nat.lt_succ_self _) H locs ls hP hD hS hl
set_option maxHeartbeats 4000000 in
set_option maxRecDepth 100000 in
theorem c_X6_feedNumber_v0 (l : Launch) (dC : Nat → ClassId) (dI : Nat → Nat → Nat) (cI cJ cZ cM : ClassId) (p0 : Nat) (p1 : Int32) (p2 : Nat → Nat)   : k_Mv l yX6_feedNumber wsX6_feedNumber ({ frames := 1, cells := 0, slots := 0, locals := 40 }) (dC, dI) vwCl (tyy cI cJ cZ cM) [(p0, .inr (6, [.ref (p2 0), .int 0, .ref (p2 1), .ref (p2 14), .ref (p2 27), .ref (p2 28), .ref (p2 29), .ref (p2 30), .ref (p2 54), .null, .int 1, .int 1, .int 999, .ref (p2 61), .ref (p2 62), .ref (p2 63), .ref (p2 60)])), ((p2 0), .inl (cI, 1600, .inl (fun _ => 0)))] [.ref p0, .int p1] 0 0 (fun (u9 : Unit) => [(p0, .inr (6, [.ref (p2 0), .int 4, .ref (p2 1), .ref (p2 14), .ref (p2 27), .ref (p2 28), .ref (p2 29), .ref (p2 30), .ref (p2 54), .null, .int 1, .int 1, .int 999, .ref (p2 61), .ref (p2 62), .ref (p2 63), .ref (p2 60)])), ((p2 0), .inl (cI, 1600, .inl (upd (upd (upd (upd (fun _ => 0) 0 (((p1.toUInt32 >>> ((24 : Int32).toUInt32 &&& Int32.toUInt32 31)).toInt32) &&& 255)) 1 (((p1.toUInt32 >>> ((16 : Int32).toUInt32 &&& Int32.toUInt32 31)).toInt32) &&& 255)) 2 (((p1.toUInt32 >>> ((8 : Int32).toUInt32 &&& Int32.toUInt32 31)).toInt32) &&& 255)) 3 (((p1.toUInt32 >>> ((0 : Int32).toUInt32 &&& Int32.toUInt32 31)).toInt32) &&& 255))))]) (fun (u9 : Unit) => True) := by
  refine fun sz => k_enter (cc := cX6_feedNumber) (maxL := 3) (ret := none) (Qc := fun A => va_Qv (fun (u9 : Unit) => True) (fun u => k_B (dC, dI) vwCl (tyy cI cJ cZ cM) A ((fun (u9 : Unit) => [(p0, .inr (6, [.ref (p2 0), .int 4, .ref (p2 1), .ref (p2 14), .ref (p2 27), .ref (p2 28), .ref (p2 29), .ref (p2 30), .ref (p2 54), .null, .int 1, .int 1, .int 999, .ref (p2 61), .ref (p2 62), .ref (p2 63), .ref (p2 60)])), ((p2 0), .inl (cI, 1600, .inl (upd (upd (upd (upd (fun _ => 0) 0 (((p1.toUInt32 >>> ((24 : Int32).toUInt32 &&& Int32.toUInt32 31)).toInt32) &&& 255)) 1 (((p1.toUInt32 >>> ((16 : Int32).toUInt32 &&& Int32.toUInt32 31)).toInt32) &&& 255)) 2 (((p1.toUInt32 >>> ((8 : Int32).toUInt32 &&& Int32.toUInt32 31)).toInt32) &&& 255)) 3 (((p1.toUInt32 >>> ((0 : Int32).toUInt32 &&& Int32.toUInt32 31)).toInt32) &&& 255))))]) u)) A) sz (by decide +kernel) rfl (Nat.le_of_ble_eq_true rfl) (fun p e s m args below meth c A ls H locs B hP hD hS hl => ?_)
  obtain ⟨hx, hb, hml, hown, hts, hr, hlk, hnm, hK, hA, hN, hC⟩ := id B
  have hown : s.vm.findClass RX6 = some m.cls := hown
  have hl : lv_has ls 3 [(0, .ref p0), (1, .int p1)] := hl
  have w_0 : (Cond.fieldLink RX6 92 "WishSea" "tapeLength" "I").before args s = true := hts _ (List.mem_of_getElem? (i := 1) rfl)
  have w_1 : (Cond.fieldLink RX6 9 "WishSea" "tape" "[I").before args s = true := hts _ (List.mem_of_getElem? (i := 2) rfl)
  have hinX6 : ∀ w ∈ u_ws RX6 TX6 17, w ∈ wsX6_feedNumber := fun _ h => List.mem_cons_of_mem _ (List.mem_append_right _ h)
  refine lv_bipush (v := 24) hx hb dX6_feedNumber_0 (by decide +kernel) ?_
  refine lv_istore_n (lv' := [(2, .int 24), (0, .ref p0), (1, .int p1)]) hx hb dX6_feedNumber_2 rfl hl (by decide) rfl (fun ls hl => ?_)
  refine lv_iload_n hx hb dX6_feedNumber_3 rfl (lv_at hl 0 rfl) ?_
  refine lv_if_lt (tgt := 51) hx hb dX6_feedNumber_4 (by decide) (fun q9 => absurd q9 (by decide +kernel)) (fun _ => ?_)
  refine lv_aload_n hx hb dX6_feedNumber_7 rfl (lv_at hl 1 rfl) ?_
  refine k_get (D := (dC, dI)) (ci := 6) (v := .int 0) (C := RX6) (T := TX6) (N := 17) hx hb hts hinX6 hown hK hP 0 rfl rfl 1 (by decide) w_0 rfl rfl dX6_feedNumber_8 ?_
  refine lv_aload_n hx hb dX6_feedNumber_11 rfl (lv_at hl 1 rfl) ?_
  refine k_get (D := (dC, dI)) (ci := 6) (v := .ref (p2 0)) (C := RX6) (T := TX6) (N := 17) hx hb hts hinX6 hown hK hP 0 rfl rfl 0 (by decide) w_1 rfl rfl dX6_feedNumber_12 ?_
  refine va_alen (v := 1600) hx hb hK hP 1 0 rfl rfl rfl dX6_feedNumber_15 ?_
  refine lv_icmp_ge (tgt := 45) hx hb dX6_feedNumber_16 (by decide) (fun q9 => absurd q9 (by decide +kernel)) (fun _ => ?_)
  refine lv_aload_n hx hb dX6_feedNumber_19 rfl (lv_at hl 1 rfl) ?_
  refine k_get (D := (dC, dI)) (ci := 6) (v := .ref (p2 0)) (C := RX6) (T := TX6) (N := 17) hx hb hts hinX6 hown hK hP 0 rfl rfl 0 (by decide) w_1 rfl rfl dX6_feedNumber_20 ?_
  refine lv_aload_n hx hb dX6_feedNumber_23 rfl (lv_at hl 1 rfl) ?_
  refine k_get (D := (dC, dI)) (ci := 6) (v := .int 0) (C := RX6) (T := TX6) (N := 17) hx hb hts hinX6 hown hK hP 0 rfl rfl 1 (by decide) w_0 rfl rfl dX6_feedNumber_24 ?_
  refine lv_iload_n hx hb dX6_feedNumber_27 rfl (lv_at hl 2 rfl) ?_
  refine lv_iload_n hx hb dX6_feedNumber_28 rfl (lv_at hl 0 rfl) ?_
  refine lv_iushr (v := (p1.toUInt32 >>> ((24 : Int32).toUInt32 &&& Int32.toUInt32 31)).toInt32) hx hb dX6_feedNumber_29 rfl ?_
  refine lv_sipush (v := 255) hx hb dX6_feedNumber_30 (by decide +kernel) ?_
  refine lv_iand hx hb dX6_feedNumber_33 ?_
  refine lv_topi (fun y_1 ey_1 => ?_)
  refine k_iast (g := (upd (fun _ => 0) 0 y_1)) (ws' := [(p0, .inr (6, [.ref (p2 0), .int 0, .ref (p2 1), .ref (p2 14), .ref (p2 27), .ref (p2 28), .ref (p2 29), .ref (p2 30), .ref (p2 54), .null, .int 1, .int 1, .int 999, .ref (p2 61), .ref (p2 62), .ref (p2 63), .ref (p2 60)])), ((p2 0), .inl (cI, 1600, .inl (upd (fun _ => 0) 0 y_1)))]) hx hb hK hP hD hS 1 0 0 rfl rfl rfl (Nat.le_of_ble_eq_true rfl) (Nat.le_of_ble_eq_true rfl) rfl rfl dX6_feedNumber_34 (fun H locs hP hD hS => ?_)
  refine lv_aload_n hx hb dX6_feedNumber_35 rfl (lv_at hl 1 rfl) ?_
  refine lv_dup hx hb dX6_feedNumber_36 rfl ?_
  refine k_get (D := (dC, dI)) (ci := 6) (v := .int 0) (C := RX6) (T := TX6) (N := 17) hx hb hts hinX6 hown hK hP 0 rfl rfl 1 (by decide) w_0 rfl rfl dX6_feedNumber_37 ?_
  refine lv_iconst (v := 1) hx hb dX6_feedNumber_40 (by decide +kernel) ?_
  refine lv_iadd hx hb dX6_feedNumber_41 ?_
  refine k_int (v := 1) (by decide +kernel) ?_
  refine k_put (D := (dC, dI)) (ci := 6) (v := .int 1) (C := RX6) (T := TX6) (N := 17) (ws' := [(p0, .inr (6, [.ref (p2 0), .int 1, .ref (p2 1), .ref (p2 14), .ref (p2 27), .ref (p2 28), .ref (p2 29), .ref (p2 30), .ref (p2 54), .null, .int 1, .int 1, .int 999, .ref (p2 61), .ref (p2 62), .ref (p2 63), .ref (p2 60)])), ((p2 0), .inl (cI, 1600, .inl (upd (fun _ => 0) 0 y_1)))]) hx hb hts hinX6 tyX6 tyX6_ok nmX6 hown hK hP hD hS 0 rfl rfl 1 (by decide) w_0 rfl rfl rfl rfl (Nat.le_of_ble_eq_true rfl) rfl dX6_feedNumber_42 (fun H locs hP hD hS => ?_)
  refine lv_iinc (v := 16) (lv' := [(2, .int 16), (0, .ref p0), (1, .int p1)]) hx hb dX6_feedNumber_45 hl (k := 0) rfl (by decide +kernel) (by decide) rfl (fun ls hl => ?_)
  refine lv_goto (tgt := 3) hx hb dX6_feedNumber_48 (by decide) ?_
  refine lv_iload_n hx hb dX6_feedNumber_3 rfl (lv_at hl 0 rfl) ?_
  refine lv_if_lt (tgt := 51) hx hb dX6_feedNumber_4 (by decide) (fun q9 => absurd q9 (by decide +kernel)) (fun _ => ?_)
  refine lv_aload_n hx hb dX6_feedNumber_7 rfl (lv_at hl 1 rfl) ?_
  refine k_get (D := (dC, dI)) (ci := 6) (v := .int 1) (C := RX6) (T := TX6) (N := 17) hx hb hts hinX6 hown hK hP 0 rfl rfl 1 (by decide) w_0 rfl rfl dX6_feedNumber_8 ?_
  refine lv_aload_n hx hb dX6_feedNumber_11 rfl (lv_at hl 1 rfl) ?_
  refine k_get (D := (dC, dI)) (ci := 6) (v := .ref (p2 0)) (C := RX6) (T := TX6) (N := 17) hx hb hts hinX6 hown hK hP 0 rfl rfl 0 (by decide) w_1 rfl rfl dX6_feedNumber_12 ?_
  refine va_alen (v := 1600) hx hb hK hP 1 0 rfl rfl rfl dX6_feedNumber_15 ?_
  refine lv_icmp_ge (tgt := 45) hx hb dX6_feedNumber_16 (by decide) (fun q9 => absurd q9 (by decide +kernel)) (fun _ => ?_)
  refine lv_aload_n hx hb dX6_feedNumber_19 rfl (lv_at hl 1 rfl) ?_
  refine k_get (D := (dC, dI)) (ci := 6) (v := .ref (p2 0)) (C := RX6) (T := TX6) (N := 17) hx hb hts hinX6 hown hK hP 0 rfl rfl 0 (by decide) w_1 rfl rfl dX6_feedNumber_20 ?_
  refine lv_aload_n hx hb dX6_feedNumber_23 rfl (lv_at hl 1 rfl) ?_
  refine k_get (D := (dC, dI)) (ci := 6) (v := .int 1) (C := RX6) (T := TX6) (N := 17) hx hb hts hinX6 hown hK hP 0 rfl rfl 1 (by decide) w_0 rfl rfl dX6_feedNumber_24 ?_
  refine lv_iload_n hx hb dX6_feedNumber_27 rfl (lv_at hl 2 rfl) ?_
  refine lv_iload_n hx hb dX6_feedNumber_28 rfl (lv_at hl 0 rfl) ?_
  refine lv_iushr (v := (p1.toUInt32 >>> ((16 : Int32).toUInt32 &&& Int32.toUInt32 31)).toInt32) hx hb dX6_feedNumber_29 rfl ?_
  refine lv_sipush (v := 255) hx hb dX6_feedNumber_30 (by decide +kernel) ?_
  refine lv_iand hx hb dX6_feedNumber_33 ?_
  refine lv_topi (fun y_2 ey_2 => ?_)
  refine k_iast (g := (upd (upd (fun _ => 0) 0 y_1) 1 y_2)) (ws' := [(p0, .inr (6, [.ref (p2 0), .int 1, .ref (p2 1), .ref (p2 14), .ref (p2 27), .ref (p2 28), .ref (p2 29), .ref (p2 30), .ref (p2 54), .null, .int 1, .int 1, .int 999, .ref (p2 61), .ref (p2 62), .ref (p2 63), .ref (p2 60)])), ((p2 0), .inl (cI, 1600, .inl (upd (upd (fun _ => 0) 0 y_1) 1 y_2)))]) hx hb hK hP hD hS 1 0 1 rfl rfl rfl (Nat.le_of_ble_eq_true rfl) (Nat.le_of_ble_eq_true rfl) rfl rfl dX6_feedNumber_34 (fun H locs hP hD hS => ?_)
  refine lv_aload_n hx hb dX6_feedNumber_35 rfl (lv_at hl 1 rfl) ?_
  refine lv_dup hx hb dX6_feedNumber_36 rfl ?_
  refine k_get (D := (dC, dI)) (ci := 6) (v := .int 1) (C := RX6) (T := TX6) (N := 17) hx hb hts hinX6 hown hK hP 0 rfl rfl 1 (by decide) w_0 rfl rfl dX6_feedNumber_37 ?_
  refine lv_iconst (v := 1) hx hb dX6_feedNumber_40 (by decide +kernel) ?_
  refine lv_iadd hx hb dX6_feedNumber_41 ?_
  refine k_int (v := 2) (by decide +kernel) ?_
  refine k_put (D := (dC, dI)) (ci := 6) (v := .int 2) (C := RX6) (T := TX6) (N := 17) (ws' := [(p0, .inr (6, [.ref (p2 0), .int 2, .ref (p2 1), .ref (p2 14), .ref (p2 27), .ref (p2 28), .ref (p2 29), .ref (p2 30), .ref (p2 54), .null, .int 1, .int 1, .int 999, .ref (p2 61), .ref (p2 62), .ref (p2 63), .ref (p2 60)])), ((p2 0), .inl (cI, 1600, .inl (upd (upd (fun _ => 0) 0 y_1) 1 y_2)))]) hx hb hts hinX6 tyX6 tyX6_ok nmX6 hown hK hP hD hS 0 rfl rfl 1 (by decide) w_0 rfl rfl rfl rfl (Nat.le_of_ble_eq_true rfl) rfl dX6_feedNumber_42 (fun H locs hP hD hS => ?_)
  refine lv_iinc (v := 8) (lv' := [(2, .int 8), (0, .ref p0), (1, .int p1)]) hx hb dX6_feedNumber_45 hl (k := 0) rfl (by decide +kernel) (by decide) rfl (fun ls hl => ?_)
  refine lv_goto (tgt := 3) hx hb dX6_feedNumber_48 (by decide) ?_
  refine lv_iload_n hx hb dX6_feedNumber_3 rfl (lv_at hl 0 rfl) ?_
  refine lv_if_lt (tgt := 51) hx hb dX6_feedNumber_4 (by decide) (fun q9 => absurd q9 (by decide +kernel)) (fun _ => ?_)
  refine lv_aload_n hx hb dX6_feedNumber_7 rfl (lv_at hl 1 rfl) ?_
  refine k_get (D := (dC, dI)) (ci := 6) (v := .int 2) (C := RX6) (T := TX6) (N := 17) hx hb hts hinX6 hown hK hP 0 rfl rfl 1 (by decide) w_0 rfl rfl dX6_feedNumber_8 ?_
  refine lv_aload_n hx hb dX6_feedNumber_11 rfl (lv_at hl 1 rfl) ?_
  refine k_get (D := (dC, dI)) (ci := 6) (v := .ref (p2 0)) (C := RX6) (T := TX6) (N := 17) hx hb hts hinX6 hown hK hP 0 rfl rfl 0 (by decide) w_1 rfl rfl dX6_feedNumber_12 ?_
  refine va_alen (v := 1600) hx hb hK hP 1 0 rfl rfl rfl dX6_feedNumber_15 ?_
  refine lv_icmp_ge (tgt := 45) hx hb dX6_feedNumber_16 (by decide) (fun q9 => absurd q9 (by decide +kernel)) (fun _ => ?_)
  refine lv_aload_n hx hb dX6_feedNumber_19 rfl (lv_at hl 1 rfl) ?_
  refine k_get (D := (dC, dI)) (ci := 6) (v := .ref (p2 0)) (C := RX6) (T := TX6) (N := 17) hx hb hts hinX6 hown hK hP 0 rfl rfl 0 (by decide) w_1 rfl rfl dX6_feedNumber_20 ?_
  refine lv_aload_n hx hb dX6_feedNumber_23 rfl (lv_at hl 1 rfl) ?_
  refine k_get (D := (dC, dI)) (ci := 6) (v := .int 2) (C := RX6) (T := TX6) (N := 17) hx hb hts hinX6 hown hK hP 0 rfl rfl 1 (by decide) w_0 rfl rfl dX6_feedNumber_24 ?_
  refine lv_iload_n hx hb dX6_feedNumber_27 rfl (lv_at hl 2 rfl) ?_
  refine lv_iload_n hx hb dX6_feedNumber_28 rfl (lv_at hl 0 rfl) ?_
  refine lv_iushr (v := (p1.toUInt32 >>> ((8 : Int32).toUInt32 &&& Int32.toUInt32 31)).toInt32) hx hb dX6_feedNumber_29 rfl ?_
  refine lv_sipush (v := 255) hx hb dX6_feedNumber_30 (by decide +kernel) ?_
  refine lv_iand hx hb dX6_feedNumber_33 ?_
  refine lv_topi (fun y_3 ey_3 => ?_)
  refine k_iast (g := (upd (upd (upd (fun _ => 0) 0 y_1) 1 y_2) 2 y_3)) (ws' := [(p0, .inr (6, [.ref (p2 0), .int 2, .ref (p2 1), .ref (p2 14), .ref (p2 27), .ref (p2 28), .ref (p2 29), .ref (p2 30), .ref (p2 54), .null, .int 1, .int 1, .int 999, .ref (p2 61), .ref (p2 62), .ref (p2 63), .ref (p2 60)])), ((p2 0), .inl (cI, 1600, .inl (upd (upd (upd (fun _ => 0) 0 y_1) 1 y_2) 2 y_3)))]) hx hb hK hP hD hS 1 0 2 rfl rfl rfl (Nat.le_of_ble_eq_true rfl) (Nat.le_of_ble_eq_true rfl) rfl rfl dX6_feedNumber_34 (fun H locs hP hD hS => ?_)
  refine lv_aload_n hx hb dX6_feedNumber_35 rfl (lv_at hl 1 rfl) ?_
  refine lv_dup hx hb dX6_feedNumber_36 rfl ?_
  refine k_get (D := (dC, dI)) (ci := 6) (v := .int 2) (C := RX6) (T := TX6) (N := 17) hx hb hts hinX6 hown hK hP 0 rfl rfl 1 (by decide) w_0 rfl rfl dX6_feedNumber_37 ?_
  refine lv_iconst (v := 1) hx hb dX6_feedNumber_40 (by decide +kernel) ?_
  refine lv_iadd hx hb dX6_feedNumber_41 ?_
  refine k_int (v := 3) (by decide +kernel) ?_
  refine k_put (D := (dC, dI)) (ci := 6) (v := .int 3) (C := RX6) (T := TX6) (N := 17) (ws' := [(p0, .inr (6, [.ref (p2 0), .int 3, .ref (p2 1), .ref (p2 14), .ref (p2 27), .ref (p2 28), .ref (p2 29), .ref (p2 30), .ref (p2 54), .null, .int 1, .int 1, .int 999, .ref (p2 61), .ref (p2 62), .ref (p2 63), .ref (p2 60)])), ((p2 0), .inl (cI, 1600, .inl (upd (upd (upd (fun _ => 0) 0 y_1) 1 y_2) 2 y_3)))]) hx hb hts hinX6 tyX6 tyX6_ok nmX6 hown hK hP hD hS 0 rfl rfl 1 (by decide) w_0 rfl rfl rfl rfl (Nat.le_of_ble_eq_true rfl) rfl dX6_feedNumber_42 (fun H locs hP hD hS => ?_)
  refine lv_iinc (v := 0) (lv' := [(2, .int 0), (0, .ref p0), (1, .int p1)]) hx hb dX6_feedNumber_45 hl (k := 0) rfl (by decide +kernel) (by decide) rfl (fun ls hl => ?_)
  refine lv_goto (tgt := 3) hx hb dX6_feedNumber_48 (by decide) ?_
  refine lv_iload_n hx hb dX6_feedNumber_3 rfl (lv_at hl 0 rfl) ?_
  refine lv_if_lt (tgt := 51) hx hb dX6_feedNumber_4 (by decide) (fun q9 => absurd q9 (by decide +kernel)) (fun _ => ?_)
  refine lv_aload_n hx hb dX6_feedNumber_7 rfl (lv_at hl 1 rfl) ?_
  refine k_get (D := (dC, dI)) (ci := 6) (v := .int 3) (C := RX6) (T := TX6) (N := 17) hx hb hts hinX6 hown hK hP 0 rfl rfl 1 (by decide) w_0 rfl rfl dX6_feedNumber_8 ?_
  refine lv_aload_n hx hb dX6_feedNumber_11 rfl (lv_at hl 1 rfl) ?_
  refine k_get (D := (dC, dI)) (ci := 6) (v := .ref (p2 0)) (C := RX6) (T := TX6) (N := 17) hx hb hts hinX6 hown hK hP 0 rfl rfl 0 (by decide) w_1 rfl rfl dX6_feedNumber_12 ?_
  refine va_alen (v := 1600) hx hb hK hP 1 0 rfl rfl rfl dX6_feedNumber_15 ?_
  refine lv_icmp_ge (tgt := 45) hx hb dX6_feedNumber_16 (by decide) (fun q9 => absurd q9 (by decide +kernel)) (fun _ => ?_)
  refine lv_aload_n hx hb dX6_feedNumber_19 rfl (lv_at hl 1 rfl) ?_
  refine k_get (D := (dC, dI)) (ci := 6) (v := .ref (p2 0)) (C := RX6) (T := TX6) (N := 17) hx hb hts hinX6 hown hK hP 0 rfl rfl 0 (by decide) w_1 rfl rfl dX6_feedNumber_20 ?_
  refine lv_aload_n hx hb dX6_feedNumber_23 rfl (lv_at hl 1 rfl) ?_
  refine k_get (D := (dC, dI)) (ci := 6) (v := .int 3) (C := RX6) (T := TX6) (N := 17) hx hb hts hinX6 hown hK hP 0 rfl rfl 1 (by decide) w_0 rfl rfl dX6_feedNumber_24 ?_
  refine lv_iload_n hx hb dX6_feedNumber_27 rfl (lv_at hl 2 rfl) ?_
  refine lv_iload_n hx hb dX6_feedNumber_28 rfl (lv_at hl 0 rfl) ?_
  refine lv_iushr (v := (p1.toUInt32 >>> ((0 : Int32).toUInt32 &&& Int32.toUInt32 31)).toInt32) hx hb dX6_feedNumber_29 rfl ?_
  refine lv_sipush (v := 255) hx hb dX6_feedNumber_30 (by decide +kernel) ?_
  refine lv_iand hx hb dX6_feedNumber_33 ?_
  refine lv_topi (fun y_4 ey_4 => ?_)
  refine k_iast (g := (upd (upd (upd (upd (fun _ => 0) 0 y_1) 1 y_2) 2 y_3) 3 y_4)) (ws' := [(p0, .inr (6, [.ref (p2 0), .int 3, .ref (p2 1), .ref (p2 14), .ref (p2 27), .ref (p2 28), .ref (p2 29), .ref (p2 30), .ref (p2 54), .null, .int 1, .int 1, .int 999, .ref (p2 61), .ref (p2 62), .ref (p2 63), .ref (p2 60)])), ((p2 0), .inl (cI, 1600, .inl (upd (upd (upd (upd (fun _ => 0) 0 y_1) 1 y_2) 2 y_3) 3 y_4)))]) hx hb hK hP hD hS 1 0 3 rfl rfl rfl (Nat.le_of_ble_eq_true rfl) (Nat.le_of_ble_eq_true rfl) rfl rfl dX6_feedNumber_34 (fun H locs hP hD hS => ?_)
  refine lv_aload_n hx hb dX6_feedNumber_35 rfl (lv_at hl 1 rfl) ?_
  refine lv_dup hx hb dX6_feedNumber_36 rfl ?_
  refine k_get (D := (dC, dI)) (ci := 6) (v := .int 3) (C := RX6) (T := TX6) (N := 17) hx hb hts hinX6 hown hK hP 0 rfl rfl 1 (by decide) w_0 rfl rfl dX6_feedNumber_37 ?_
  refine lv_iconst (v := 1) hx hb dX6_feedNumber_40 (by decide +kernel) ?_
  refine lv_iadd hx hb dX6_feedNumber_41 ?_
  refine k_int (v := 4) (by decide +kernel) ?_
  refine k_put (D := (dC, dI)) (ci := 6) (v := .int 4) (C := RX6) (T := TX6) (N := 17) (ws' := [(p0, .inr (6, [.ref (p2 0), .int 4, .ref (p2 1), .ref (p2 14), .ref (p2 27), .ref (p2 28), .ref (p2 29), .ref (p2 30), .ref (p2 54), .null, .int 1, .int 1, .int 999, .ref (p2 61), .ref (p2 62), .ref (p2 63), .ref (p2 60)])), ((p2 0), .inl (cI, 1600, .inl (upd (upd (upd (upd (fun _ => 0) 0 y_1) 1 y_2) 2 y_3) 3 y_4)))]) hx hb hts hinX6 tyX6 tyX6_ok nmX6 hown hK hP hD hS 0 rfl rfl 1 (by decide) w_0 rfl rfl rfl rfl (Nat.le_of_ble_eq_true rfl) rfl dX6_feedNumber_42 (fun H locs hP hD hS => ?_)
  refine lv_iinc (v := (-8)) (lv' := [(2, .int (-8)), (0, .ref p0), (1, .int p1)]) hx hb dX6_feedNumber_45 hl (k := 0) rfl (by decide +kernel) (by decide) rfl (fun ls hl => ?_)
  refine lv_goto (tgt := 3) hx hb dX6_feedNumber_48 (by decide) ?_
  refine lv_iload_n hx hb dX6_feedNumber_3 rfl (lv_at hl 0 rfl) ?_
  refine lv_if_lt (tgt := 51) hx hb dX6_feedNumber_4 (by decide) (fun _ => ?_) (fun q9 => absurd q9 (by decide +kernel))
  subst ey_4
  subst ey_3
  subst ey_2
  subst ey_1
  exact k_rv B hP hD hS dX6_feedNumber_51 () [0, 1] rfl rfl (Nat.le_of_ble_eq_true rfl) (Nat.le_of_ble_eq_true rfl) trivial
set_option maxHeartbeats 4000000 in
set_option maxRecDepth 100000 in
theorem c_X6_feedNumber_v1 (l : Launch) (dC : Nat → ClassId) (dI : Nat → Nat → Nat) (cI cJ cZ cM : ClassId) (p0 : Nat) (p1 : Int32) (p2 : Nat → Nat) (p3 : Int32) (p4 : Int32) (p5 : Int32) (p6 : Int32)   : k_Mv l yX6_feedNumber wsX6_feedNumber ({ frames := 1, cells := 0, slots := 0, locals := 40 }) (dC, dI) vwCl (tyy cI cJ cZ cM) [(p0, .inr (6, [.ref (p2 0), .int 4, .ref (p2 1), .ref (p2 14), .ref (p2 27), .ref (p2 28), .ref (p2 29), .ref (p2 30), .ref (p2 54), .null, .int 1, .int 1, .int 999, .ref (p2 61), .ref (p2 62), .ref (p2 63), .ref (p2 60)])), ((p2 0), .inl (cI, 1600, .inl (upd (upd (upd (upd (fun _ => 0) 0 p3) 1 p4) 2 p5) 3 p6)))] [.ref p0, .int p1] 0 0 (fun (u9 : Unit) => [(p0, .inr (6, [.ref (p2 0), .int 8, .ref (p2 1), .ref (p2 14), .ref (p2 27), .ref (p2 28), .ref (p2 29), .ref (p2 30), .ref (p2 54), .null, .int 1, .int 1, .int 999, .ref (p2 61), .ref (p2 62), .ref (p2 63), .ref (p2 60)])), ((p2 0), .inl (cI, 1600, .inl (upd (upd (upd (upd (upd (upd (upd (upd (fun _ => 0) 0 p3) 1 p4) 2 p5) 3 p6) 4 (((p1.toUInt32 >>> ((24 : Int32).toUInt32 &&& Int32.toUInt32 31)).toInt32) &&& 255)) 5 (((p1.toUInt32 >>> ((16 : Int32).toUInt32 &&& Int32.toUInt32 31)).toInt32) &&& 255)) 6 (((p1.toUInt32 >>> ((8 : Int32).toUInt32 &&& Int32.toUInt32 31)).toInt32) &&& 255)) 7 (((p1.toUInt32 >>> ((0 : Int32).toUInt32 &&& Int32.toUInt32 31)).toInt32) &&& 255))))]) (fun (u9 : Unit) => True) := by
  refine fun sz => k_enter (cc := cX6_feedNumber) (maxL := 3) (ret := none) (Qc := fun A => va_Qv (fun (u9 : Unit) => True) (fun u => k_B (dC, dI) vwCl (tyy cI cJ cZ cM) A ((fun (u9 : Unit) => [(p0, .inr (6, [.ref (p2 0), .int 8, .ref (p2 1), .ref (p2 14), .ref (p2 27), .ref (p2 28), .ref (p2 29), .ref (p2 30), .ref (p2 54), .null, .int 1, .int 1, .int 999, .ref (p2 61), .ref (p2 62), .ref (p2 63), .ref (p2 60)])), ((p2 0), .inl (cI, 1600, .inl (upd (upd (upd (upd (upd (upd (upd (upd (fun _ => 0) 0 p3) 1 p4) 2 p5) 3 p6) 4 (((p1.toUInt32 >>> ((24 : Int32).toUInt32 &&& Int32.toUInt32 31)).toInt32) &&& 255)) 5 (((p1.toUInt32 >>> ((16 : Int32).toUInt32 &&& Int32.toUInt32 31)).toInt32) &&& 255)) 6 (((p1.toUInt32 >>> ((8 : Int32).toUInt32 &&& Int32.toUInt32 31)).toInt32) &&& 255)) 7 (((p1.toUInt32 >>> ((0 : Int32).toUInt32 &&& Int32.toUInt32 31)).toInt32) &&& 255))))]) u)) A) sz (by decide +kernel) rfl (Nat.le_of_ble_eq_true rfl) (fun p e s m args below meth c A ls H locs B hP hD hS hl => ?_)
  obtain ⟨hx, hb, hml, hown, hts, hr, hlk, hnm, hK, hA, hN, hC⟩ := id B
  have hown : s.vm.findClass RX6 = some m.cls := hown
  have hl : lv_has ls 3 [(0, .ref p0), (1, .int p1)] := hl
  have w_0 : (Cond.fieldLink RX6 92 "WishSea" "tapeLength" "I").before args s = true := hts _ (List.mem_of_getElem? (i := 1) rfl)
  have w_1 : (Cond.fieldLink RX6 9 "WishSea" "tape" "[I").before args s = true := hts _ (List.mem_of_getElem? (i := 2) rfl)
  have hinX6 : ∀ w ∈ u_ws RX6 TX6 17, w ∈ wsX6_feedNumber := fun _ h => List.mem_cons_of_mem _ (List.mem_append_right _ h)
  refine lv_bipush (v := 24) hx hb dX6_feedNumber_0 (by decide +kernel) ?_
  refine lv_istore_n (lv' := [(2, .int 24), (0, .ref p0), (1, .int p1)]) hx hb dX6_feedNumber_2 rfl hl (by decide) rfl (fun ls hl => ?_)
  refine lv_iload_n hx hb dX6_feedNumber_3 rfl (lv_at hl 0 rfl) ?_
  refine lv_if_lt (tgt := 51) hx hb dX6_feedNumber_4 (by decide) (fun q9 => absurd q9 (by decide +kernel)) (fun _ => ?_)
  refine lv_aload_n hx hb dX6_feedNumber_7 rfl (lv_at hl 1 rfl) ?_
  refine k_get (D := (dC, dI)) (ci := 6) (v := .int 4) (C := RX6) (T := TX6) (N := 17) hx hb hts hinX6 hown hK hP 0 rfl rfl 1 (by decide) w_0 rfl rfl dX6_feedNumber_8 ?_
  refine lv_aload_n hx hb dX6_feedNumber_11 rfl (lv_at hl 1 rfl) ?_
  refine k_get (D := (dC, dI)) (ci := 6) (v := .ref (p2 0)) (C := RX6) (T := TX6) (N := 17) hx hb hts hinX6 hown hK hP 0 rfl rfl 0 (by decide) w_1 rfl rfl dX6_feedNumber_12 ?_
  refine va_alen (v := 1600) hx hb hK hP 1 0 rfl rfl rfl dX6_feedNumber_15 ?_
  refine lv_icmp_ge (tgt := 45) hx hb dX6_feedNumber_16 (by decide) (fun q9 => absurd q9 (by decide +kernel)) (fun _ => ?_)
  refine lv_aload_n hx hb dX6_feedNumber_19 rfl (lv_at hl 1 rfl) ?_
  refine k_get (D := (dC, dI)) (ci := 6) (v := .ref (p2 0)) (C := RX6) (T := TX6) (N := 17) hx hb hts hinX6 hown hK hP 0 rfl rfl 0 (by decide) w_1 rfl rfl dX6_feedNumber_20 ?_
  refine lv_aload_n hx hb dX6_feedNumber_23 rfl (lv_at hl 1 rfl) ?_
  refine k_get (D := (dC, dI)) (ci := 6) (v := .int 4) (C := RX6) (T := TX6) (N := 17) hx hb hts hinX6 hown hK hP 0 rfl rfl 1 (by decide) w_0 rfl rfl dX6_feedNumber_24 ?_
  refine lv_iload_n hx hb dX6_feedNumber_27 rfl (lv_at hl 2 rfl) ?_
  refine lv_iload_n hx hb dX6_feedNumber_28 rfl (lv_at hl 0 rfl) ?_
  refine lv_iushr (v := (p1.toUInt32 >>> ((24 : Int32).toUInt32 &&& Int32.toUInt32 31)).toInt32) hx hb dX6_feedNumber_29 rfl ?_
  refine lv_sipush (v := 255) hx hb dX6_feedNumber_30 (by decide +kernel) ?_
  refine lv_iand hx hb dX6_feedNumber_33 ?_
  refine lv_topi (fun y_1 ey_1 => ?_)
  refine k_iast (g := (upd (upd (upd (upd (upd (fun _ => 0) 0 p3) 1 p4) 2 p5) 3 p6) 4 y_1)) (ws' := [(p0, .inr (6, [.ref (p2 0), .int 4, .ref (p2 1), .ref (p2 14), .ref (p2 27), .ref (p2 28), .ref (p2 29), .ref (p2 30), .ref (p2 54), .null, .int 1, .int 1, .int 999, .ref (p2 61), .ref (p2 62), .ref (p2 63), .ref (p2 60)])), ((p2 0), .inl (cI, 1600, .inl (upd (upd (upd (upd (upd (fun _ => 0) 0 p3) 1 p4) 2 p5) 3 p6) 4 y_1)))]) hx hb hK hP hD hS 1 0 4 rfl rfl rfl (Nat.le_of_ble_eq_true rfl) (Nat.le_of_ble_eq_true rfl) rfl rfl dX6_feedNumber_34 (fun H locs hP hD hS => ?_)
  refine lv_aload_n hx hb dX6_feedNumber_35 rfl (lv_at hl 1 rfl) ?_
  refine lv_dup hx hb dX6_feedNumber_36 rfl ?_
  refine k_get (D := (dC, dI)) (ci := 6) (v := .int 4) (C := RX6) (T := TX6) (N := 17) hx hb hts hinX6 hown hK hP 0 rfl rfl 1 (by decide) w_0 rfl rfl dX6_feedNumber_37 ?_
  refine lv_iconst (v := 1) hx hb dX6_feedNumber_40 (by decide +kernel) ?_
  refine lv_iadd hx hb dX6_feedNumber_41 ?_
  refine k_int (v := 5) (by decide +kernel) ?_
  refine k_put (D := (dC, dI)) (ci := 6) (v := .int 5) (C := RX6) (T := TX6) (N := 17) (ws' := [(p0, .inr (6, [.ref (p2 0), .int 5, .ref (p2 1), .ref (p2 14), .ref (p2 27), .ref (p2 28), .ref (p2 29), .ref (p2 30), .ref (p2 54), .null, .int 1, .int 1, .int 999, .ref (p2 61), .ref (p2 62), .ref (p2 63), .ref (p2 60)])), ((p2 0), .inl (cI, 1600, .inl (upd (upd (upd (upd (upd (fun _ => 0) 0 p3) 1 p4) 2 p5) 3 p6) 4 y_1)))]) hx hb hts hinX6 tyX6 tyX6_ok nmX6 hown hK hP hD hS 0 rfl rfl 1 (by decide) w_0 rfl rfl rfl rfl (Nat.le_of_ble_eq_true rfl) rfl dX6_feedNumber_42 (fun H locs hP hD hS => ?_)
  refine lv_iinc (v := 16) (lv' := [(2, .int 16), (0, .ref p0), (1, .int p1)]) hx hb dX6_feedNumber_45 hl (k := 0) rfl (by decide +kernel) (by decide) rfl (fun ls hl => ?_)
  refine lv_goto (tgt := 3) hx hb dX6_feedNumber_48 (by decide) ?_
  refine lv_iload_n hx hb dX6_feedNumber_3 rfl (lv_at hl 0 rfl) ?_
  refine lv_if_lt (tgt := 51) hx hb dX6_feedNumber_4 (by decide) (fun q9 => absurd q9 (by decide +kernel)) (fun _ => ?_)
  refine lv_aload_n hx hb dX6_feedNumber_7 rfl (lv_at hl 1 rfl) ?_
  refine k_get (D := (dC, dI)) (ci := 6) (v := .int 5) (C := RX6) (T := TX6) (N := 17) hx hb hts hinX6 hown hK hP 0 rfl rfl 1 (by decide) w_0 rfl rfl dX6_feedNumber_8 ?_
  refine lv_aload_n hx hb dX6_feedNumber_11 rfl (lv_at hl 1 rfl) ?_
  refine k_get (D := (dC, dI)) (ci := 6) (v := .ref (p2 0)) (C := RX6) (T := TX6) (N := 17) hx hb hts hinX6 hown hK hP 0 rfl rfl 0 (by decide) w_1 rfl rfl dX6_feedNumber_12 ?_
  refine va_alen (v := 1600) hx hb hK hP 1 0 rfl rfl rfl dX6_feedNumber_15 ?_
  refine lv_icmp_ge (tgt := 45) hx hb dX6_feedNumber_16 (by decide) (fun q9 => absurd q9 (by decide +kernel)) (fun _ => ?_)
  refine lv_aload_n hx hb dX6_feedNumber_19 rfl (lv_at hl 1 rfl) ?_
  refine k_get (D := (dC, dI)) (ci := 6) (v := .ref (p2 0)) (C := RX6) (T := TX6) (N := 17) hx hb hts hinX6 hown hK hP 0 rfl rfl 0 (by decide) w_1 rfl rfl dX6_feedNumber_20 ?_
  refine lv_aload_n hx hb dX6_feedNumber_23 rfl (lv_at hl 1 rfl) ?_
  refine k_get (D := (dC, dI)) (ci := 6) (v := .int 5) (C := RX6) (T := TX6) (N := 17) hx hb hts hinX6 hown hK hP 0 rfl rfl 1 (by decide) w_0 rfl rfl dX6_feedNumber_24 ?_
  refine lv_iload_n hx hb dX6_feedNumber_27 rfl (lv_at hl 2 rfl) ?_
  refine lv_iload_n hx hb dX6_feedNumber_28 rfl (lv_at hl 0 rfl) ?_
  refine lv_iushr (v := (p1.toUInt32 >>> ((16 : Int32).toUInt32 &&& Int32.toUInt32 31)).toInt32) hx hb dX6_feedNumber_29 rfl ?_
  refine lv_sipush (v := 255) hx hb dX6_feedNumber_30 (by decide +kernel) ?_
  refine lv_iand hx hb dX6_feedNumber_33 ?_
  refine lv_topi (fun y_2 ey_2 => ?_)
  refine k_iast (g := (upd (upd (upd (upd (upd (upd (fun _ => 0) 0 p3) 1 p4) 2 p5) 3 p6) 4 y_1) 5 y_2)) (ws' := [(p0, .inr (6, [.ref (p2 0), .int 5, .ref (p2 1), .ref (p2 14), .ref (p2 27), .ref (p2 28), .ref (p2 29), .ref (p2 30), .ref (p2 54), .null, .int 1, .int 1, .int 999, .ref (p2 61), .ref (p2 62), .ref (p2 63), .ref (p2 60)])), ((p2 0), .inl (cI, 1600, .inl (upd (upd (upd (upd (upd (upd (fun _ => 0) 0 p3) 1 p4) 2 p5) 3 p6) 4 y_1) 5 y_2)))]) hx hb hK hP hD hS 1 0 5 rfl rfl rfl (Nat.le_of_ble_eq_true rfl) (Nat.le_of_ble_eq_true rfl) rfl rfl dX6_feedNumber_34 (fun H locs hP hD hS => ?_)
  refine lv_aload_n hx hb dX6_feedNumber_35 rfl (lv_at hl 1 rfl) ?_
  refine lv_dup hx hb dX6_feedNumber_36 rfl ?_
  refine k_get (D := (dC, dI)) (ci := 6) (v := .int 5) (C := RX6) (T := TX6) (N := 17) hx hb hts hinX6 hown hK hP 0 rfl rfl 1 (by decide) w_0 rfl rfl dX6_feedNumber_37 ?_
  refine lv_iconst (v := 1) hx hb dX6_feedNumber_40 (by decide +kernel) ?_
  refine lv_iadd hx hb dX6_feedNumber_41 ?_
  refine k_int (v := 6) (by decide +kernel) ?_
  refine k_put (D := (dC, dI)) (ci := 6) (v := .int 6) (C := RX6) (T := TX6) (N := 17) (ws' := [(p0, .inr (6, [.ref (p2 0), .int 6, .ref (p2 1), .ref (p2 14), .ref (p2 27), .ref (p2 28), .ref (p2 29), .ref (p2 30), .ref (p2 54), .null, .int 1, .int 1, .int 999, .ref (p2 61), .ref (p2 62), .ref (p2 63), .ref (p2 60)])), ((p2 0), .inl (cI, 1600, .inl (upd (upd (upd (upd (upd (upd (fun _ => 0) 0 p3) 1 p4) 2 p5) 3 p6) 4 y_1) 5 y_2)))]) hx hb hts hinX6 tyX6 tyX6_ok nmX6 hown hK hP hD hS 0 rfl rfl 1 (by decide) w_0 rfl rfl rfl rfl (Nat.le_of_ble_eq_true rfl) rfl dX6_feedNumber_42 (fun H locs hP hD hS => ?_)
  refine lv_iinc (v := 8) (lv' := [(2, .int 8), (0, .ref p0), (1, .int p1)]) hx hb dX6_feedNumber_45 hl (k := 0) rfl (by decide +kernel) (by decide) rfl (fun ls hl => ?_)
  refine lv_goto (tgt := 3) hx hb dX6_feedNumber_48 (by decide) ?_
  refine lv_iload_n hx hb dX6_feedNumber_3 rfl (lv_at hl 0 rfl) ?_
  refine lv_if_lt (tgt := 51) hx hb dX6_feedNumber_4 (by decide) (fun q9 => absurd q9 (by decide +kernel)) (fun _ => ?_)
  refine lv_aload_n hx hb dX6_feedNumber_7 rfl (lv_at hl 1 rfl) ?_
  refine k_get (D := (dC, dI)) (ci := 6) (v := .int 6) (C := RX6) (T := TX6) (N := 17) hx hb hts hinX6 hown hK hP 0 rfl rfl 1 (by decide) w_0 rfl rfl dX6_feedNumber_8 ?_
  refine lv_aload_n hx hb dX6_feedNumber_11 rfl (lv_at hl 1 rfl) ?_
  refine k_get (D := (dC, dI)) (ci := 6) (v := .ref (p2 0)) (C := RX6) (T := TX6) (N := 17) hx hb hts hinX6 hown hK hP 0 rfl rfl 0 (by decide) w_1 rfl rfl dX6_feedNumber_12 ?_
  refine va_alen (v := 1600) hx hb hK hP 1 0 rfl rfl rfl dX6_feedNumber_15 ?_
  refine lv_icmp_ge (tgt := 45) hx hb dX6_feedNumber_16 (by decide) (fun q9 => absurd q9 (by decide +kernel)) (fun _ => ?_)
  refine lv_aload_n hx hb dX6_feedNumber_19 rfl (lv_at hl 1 rfl) ?_
  refine k_get (D := (dC, dI)) (ci := 6) (v := .ref (p2 0)) (C := RX6) (T := TX6) (N := 17) hx hb hts hinX6 hown hK hP 0 rfl rfl 0 (by decide) w_1 rfl rfl dX6_feedNumber_20 ?_
  refine lv_aload_n hx hb dX6_feedNumber_23 rfl (lv_at hl 1 rfl) ?_
  refine k_get (D := (dC, dI)) (ci := 6) (v := .int 6) (C := RX6) (T := TX6) (N := 17) hx hb hts hinX6 hown hK hP 0 rfl rfl 1 (by decide) w_0 rfl rfl dX6_feedNumber_24 ?_
  refine lv_iload_n hx hb dX6_feedNumber_27 rfl (lv_at hl 2 rfl) ?_
  refine lv_iload_n hx hb dX6_feedNumber_28 rfl (lv_at hl 0 rfl) ?_
  refine lv_iushr (v := (p1.toUInt32 >>> ((8 : Int32).toUInt32 &&& Int32.toUInt32 31)).toInt32) hx hb dX6_feedNumber_29 rfl ?_
  refine lv_sipush (v := 255) hx hb dX6_feedNumber_30 (by decide +kernel) ?_
  refine lv_iand hx hb dX6_feedNumber_33 ?_
  refine lv_topi (fun y_3 ey_3 => ?_)
  refine k_iast (g := (upd (upd (upd (upd (upd (upd (upd (fun _ => 0) 0 p3) 1 p4) 2 p5) 3 p6) 4 y_1) 5 y_2) 6 y_3)) (ws' := [(p0, .inr (6, [.ref (p2 0), .int 6, .ref (p2 1), .ref (p2 14), .ref (p2 27), .ref (p2 28), .ref (p2 29), .ref (p2 30), .ref (p2 54), .null, .int 1, .int 1, .int 999, .ref (p2 61), .ref (p2 62), .ref (p2 63), .ref (p2 60)])), ((p2 0), .inl (cI, 1600, .inl (upd (upd (upd (upd (upd (upd (upd (fun _ => 0) 0 p3) 1 p4) 2 p5) 3 p6) 4 y_1) 5 y_2) 6 y_3)))]) hx hb hK hP hD hS 1 0 6 rfl rfl rfl (Nat.le_of_ble_eq_true rfl) (Nat.le_of_ble_eq_true rfl) rfl rfl dX6_feedNumber_34 (fun H locs hP hD hS => ?_)
  refine lv_aload_n hx hb dX6_feedNumber_35 rfl (lv_at hl 1 rfl) ?_
  refine lv_dup hx hb dX6_feedNumber_36 rfl ?_
  refine k_get (D := (dC, dI)) (ci := 6) (v := .int 6) (C := RX6) (T := TX6) (N := 17) hx hb hts hinX6 hown hK hP 0 rfl rfl 1 (by decide) w_0 rfl rfl dX6_feedNumber_37 ?_
  refine lv_iconst (v := 1) hx hb dX6_feedNumber_40 (by decide +kernel) ?_
  refine lv_iadd hx hb dX6_feedNumber_41 ?_
  refine k_int (v := 7) (by decide +kernel) ?_
  refine k_put (D := (dC, dI)) (ci := 6) (v := .int 7) (C := RX6) (T := TX6) (N := 17) (ws' := [(p0, .inr (6, [.ref (p2 0), .int 7, .ref (p2 1), .ref (p2 14), .ref (p2 27), .ref (p2 28), .ref (p2 29), .ref (p2 30), .ref (p2 54), .null, .int 1, .int 1, .int 999, .ref (p2 61), .ref (p2 62), .ref (p2 63), .ref (p2 60)])), ((p2 0), .inl (cI, 1600, .inl (upd (upd (upd (upd (upd (upd (upd (fun _ => 0) 0 p3) 1 p4) 2 p5) 3 p6) 4 y_1) 5 y_2) 6 y_3)))]) hx hb hts hinX6 tyX6 tyX6_ok nmX6 hown hK hP hD hS 0 rfl rfl 1 (by decide) w_0 rfl rfl rfl rfl (Nat.le_of_ble_eq_true rfl) rfl dX6_feedNumber_42 (fun H locs hP hD hS => ?_)
  refine lv_iinc (v := 0) (lv' := [(2, .int 0), (0, .ref p0), (1, .int p1)]) hx hb dX6_feedNumber_45 hl (k := 0) rfl (by decide +kernel) (by decide) rfl (fun ls hl => ?_)
  refine lv_goto (tgt := 3) hx hb dX6_feedNumber_48 (by decide) ?_
  refine lv_iload_n hx hb dX6_feedNumber_3 rfl (lv_at hl 0 rfl) ?_
  refine lv_if_lt (tgt := 51) hx hb dX6_feedNumber_4 (by decide) (fun q9 => absurd q9 (by decide +kernel)) (fun _ => ?_)
  refine lv_aload_n hx hb dX6_feedNumber_7 rfl (lv_at hl 1 rfl) ?_
  refine k_get (D := (dC, dI)) (ci := 6) (v := .int 7) (C := RX6) (T := TX6) (N := 17) hx hb hts hinX6 hown hK hP 0 rfl rfl 1 (by decide) w_0 rfl rfl dX6_feedNumber_8 ?_
  refine lv_aload_n hx hb dX6_feedNumber_11 rfl (lv_at hl 1 rfl) ?_
  refine k_get (D := (dC, dI)) (ci := 6) (v := .ref (p2 0)) (C := RX6) (T := TX6) (N := 17) hx hb hts hinX6 hown hK hP 0 rfl rfl 0 (by decide) w_1 rfl rfl dX6_feedNumber_12 ?_
  refine va_alen (v := 1600) hx hb hK hP 1 0 rfl rfl rfl dX6_feedNumber_15 ?_
  refine lv_icmp_ge (tgt := 45) hx hb dX6_feedNumber_16 (by decide) (fun q9 => absurd q9 (by decide +kernel)) (fun _ => ?_)
  refine lv_aload_n hx hb dX6_feedNumber_19 rfl (lv_at hl 1 rfl) ?_
  refine k_get (D := (dC, dI)) (ci := 6) (v := .ref (p2 0)) (C := RX6) (T := TX6) (N := 17) hx hb hts hinX6 hown hK hP 0 rfl rfl 0 (by decide) w_1 rfl rfl dX6_feedNumber_20 ?_
  refine lv_aload_n hx hb dX6_feedNumber_23 rfl (lv_at hl 1 rfl) ?_
  refine k_get (D := (dC, dI)) (ci := 6) (v := .int 7) (C := RX6) (T := TX6) (N := 17) hx hb hts hinX6 hown hK hP 0 rfl rfl 1 (by decide) w_0 rfl rfl dX6_feedNumber_24 ?_
  refine lv_iload_n hx hb dX6_feedNumber_27 rfl (lv_at hl 2 rfl) ?_
  refine lv_iload_n hx hb dX6_feedNumber_28 rfl (lv_at hl 0 rfl) ?_
  refine lv_iushr (v := (p1.toUInt32 >>> ((0 : Int32).toUInt32 &&& Int32.toUInt32 31)).toInt32) hx hb dX6_feedNumber_29 rfl ?_
  refine lv_sipush (v := 255) hx hb dX6_feedNumber_30 (by decide +kernel) ?_
  refine lv_iand hx hb dX6_feedNumber_33 ?_
  refine lv_topi (fun y_4 ey_4 => ?_)
  refine k_iast (g := (upd (upd (upd (upd (upd (upd (upd (upd (fun _ => 0) 0 p3) 1 p4) 2 p5) 3 p6) 4 y_1) 5 y_2) 6 y_3) 7 y_4)) (ws' := [(p0, .inr (6, [.ref (p2 0), .int 7, .ref (p2 1), .ref (p2 14), .ref (p2 27), .ref (p2 28), .ref (p2 29), .ref (p2 30), .ref (p2 54), .null, .int 1, .int 1, .int 999, .ref (p2 61), .ref (p2 62), .ref (p2 63), .ref (p2 60)])), ((p2 0), .inl (cI, 1600, .inl (upd (upd (upd (upd (upd (upd (upd (upd (fun _ => 0) 0 p3) 1 p4) 2 p5) 3 p6) 4 y_1) 5 y_2) 6 y_3) 7 y_4)))]) hx hb hK hP hD hS 1 0 7 rfl rfl rfl (Nat.le_of_ble_eq_true rfl) (Nat.le_of_ble_eq_true rfl) rfl rfl dX6_feedNumber_34 (fun H locs hP hD hS => ?_)
  refine lv_aload_n hx hb dX6_feedNumber_35 rfl (lv_at hl 1 rfl) ?_
  refine lv_dup hx hb dX6_feedNumber_36 rfl ?_
  refine k_get (D := (dC, dI)) (ci := 6) (v := .int 7) (C := RX6) (T := TX6) (N := 17) hx hb hts hinX6 hown hK hP 0 rfl rfl 1 (by decide) w_0 rfl rfl dX6_feedNumber_37 ?_
  refine lv_iconst (v := 1) hx hb dX6_feedNumber_40 (by decide +kernel) ?_
  refine lv_iadd hx hb dX6_feedNumber_41 ?_
  refine k_int (v := 8) (by decide +kernel) ?_
  refine k_put (D := (dC, dI)) (ci := 6) (v := .int 8) (C := RX6) (T := TX6) (N := 17) (ws' := [(p0, .inr (6, [.ref (p2 0), .int 8, .ref (p2 1), .ref (p2 14), .ref (p2 27), .ref (p2 28), .ref (p2 29), .ref (p2 30), .ref (p2 54), .null, .int 1, .int 1, .int 999, .ref (p2 61), .ref (p2 62), .ref (p2 63), .ref (p2 60)])), ((p2 0), .inl (cI, 1600, .inl (upd (upd (upd (upd (upd (upd (upd (upd (fun _ => 0) 0 p3) 1 p4) 2 p5) 3 p6) 4 y_1) 5 y_2) 6 y_3) 7 y_4)))]) hx hb hts hinX6 tyX6 tyX6_ok nmX6 hown hK hP hD hS 0 rfl rfl 1 (by decide) w_0 rfl rfl rfl rfl (Nat.le_of_ble_eq_true rfl) rfl dX6_feedNumber_42 (fun H locs hP hD hS => ?_)
  refine lv_iinc (v := (-8)) (lv' := [(2, .int (-8)), (0, .ref p0), (1, .int p1)]) hx hb dX6_feedNumber_45 hl (k := 0) rfl (by decide +kernel) (by decide) rfl (fun ls hl => ?_)
  refine lv_goto (tgt := 3) hx hb dX6_feedNumber_48 (by decide) ?_
  refine lv_iload_n hx hb dX6_feedNumber_3 rfl (lv_at hl 0 rfl) ?_
  refine lv_if_lt (tgt := 51) hx hb dX6_feedNumber_4 (by decide) (fun _ => ?_) (fun q9 => absurd q9 (by decide +kernel))
  subst ey_4
  subst ey_3
  subst ey_2
  subst ey_1
  exact k_rv B hP hD hS dX6_feedNumber_51 () [0, 1] rfl rfl (Nat.le_of_ble_eq_true rfl) (Nat.le_of_ble_eq_true rfl) trivial
set_option maxHeartbeats 4000000 in
set_option maxRecDepth 100000 in
theorem c_X6_feedNumber_v2 (l : Launch) (dC : Nat → ClassId) (dI : Nat → Nat → Nat) (cI cJ cZ cM : ClassId) (p0 : Nat) (p1 : Int32) (p2 : Nat → Nat) (p3 : Int32) (p4 : Int32) (p5 : Int32) (p6 : Int32) (p7 : Int32) (p8 : Int32) (p9 : Int32) (p10 : Int32)   : k_Mv l yX6_feedNumber wsX6_feedNumber ({ frames := 1, cells := 0, slots := 0, locals := 40 }) (dC, dI) vwCl (tyy cI cJ cZ cM) [(p0, .inr (6, [.ref (p2 0), .int 8, .ref (p2 1), .ref (p2 14), .ref (p2 27), .ref (p2 28), .ref (p2 29), .ref (p2 30), .ref (p2 54), .null, .int 1, .int 1, .int 999, .ref (p2 61), .ref (p2 62), .ref (p2 63), .ref (p2 60)])), ((p2 0), .inl (cI, 1600, .inl (upd (upd (upd (upd (upd (upd (upd (upd (fun _ => 0) 0 p3) 1 p4) 2 p5) 3 p6) 4 p7) 5 p8) 6 p9) 7 p10)))] [.ref p0, .int p1] 0 0 (fun (u9 : Unit) => [(p0, .inr (6, [.ref (p2 0), .int 12, .ref (p2 1), .ref (p2 14), .ref (p2 27), .ref (p2 28), .ref (p2 29), .ref (p2 30), .ref (p2 54), .null, .int 1, .int 1, .int 999, .ref (p2 61), .ref (p2 62), .ref (p2 63), .ref (p2 60)])), ((p2 0), .inl (cI, 1600, .inl (upd (upd (upd (upd (upd (upd (upd (upd (upd (upd (upd (upd (fun _ => 0) 0 p3) 1 p4) 2 p5) 3 p6) 4 p7) 5 p8) 6 p9) 7 p10) 8 (((p1.toUInt32 >>> ((24 : Int32).toUInt32 &&& Int32.toUInt32 31)).toInt32) &&& 255)) 9 (((p1.toUInt32 >>> ((16 : Int32).toUInt32 &&& Int32.toUInt32 31)).toInt32) &&& 255)) 10 (((p1.toUInt32 >>> ((8 : Int32).toUInt32 &&& Int32.toUInt32 31)).toInt32) &&& 255)) 11 (((p1.toUInt32 >>> ((0 : Int32).toUInt32 &&& Int32.toUInt32 31)).toInt32) &&& 255))))]) (fun (u9 : Unit) => True) := by
  refine fun sz => k_enter (cc := cX6_feedNumber) (maxL := 3) (ret := none) (Qc := fun A => va_Qv (fun (u9 : Unit) => True) (fun u => k_B (dC, dI) vwCl (tyy cI cJ cZ cM) A ((fun (u9 : Unit) => [(p0, .inr (6, [.ref (p2 0), .int 12, .ref (p2 1), .ref (p2 14), .ref (p2 27), .ref (p2 28), .ref (p2 29), .ref (p2 30), .ref (p2 54), .null, .int 1, .int 1, .int 999, .ref (p2 61), .ref (p2 62), .ref (p2 63), .ref (p2 60)])), ((p2 0), .inl (cI, 1600, .inl (upd (upd (upd (upd (upd (upd (upd (upd (upd (upd (upd (upd (fun _ => 0) 0 p3) 1 p4) 2 p5) 3 p6) 4 p7) 5 p8) 6 p9) 7 p10) 8 (((p1.toUInt32 >>> ((24 : Int32).toUInt32 &&& Int32.toUInt32 31)).toInt32) &&& 255)) 9 (((p1.toUInt32 >>> ((16 : Int32).toUInt32 &&& Int32.toUInt32 31)).toInt32) &&& 255)) 10 (((p1.toUInt32 >>> ((8 : Int32).toUInt32 &&& Int32.toUInt32 31)).toInt32) &&& 255)) 11 (((p1.toUInt32 >>> ((0 : Int32).toUInt32 &&& Int32.toUInt32 31)).toInt32) &&& 255))))]) u)) A) sz (by decide +kernel) rfl (Nat.le_of_ble_eq_true rfl) (fun p e s m args below meth c A ls H locs B hP hD hS hl => ?_)
  obtain ⟨hx, hb, hml, hown, hts, hr, hlk, hnm, hK, hA, hN, hC⟩ := id B
  have hown : s.vm.findClass RX6 = some m.cls := hown
  have hl : lv_has ls 3 [(0, .ref p0), (1, .int p1)] := hl
  have w_0 : (Cond.fieldLink RX6 92 "WishSea" "tapeLength" "I").before args s = true := hts _ (List.mem_of_getElem? (i := 1) rfl)
  have w_1 : (Cond.fieldLink RX6 9 "WishSea" "tape" "[I").before args s = true := hts _ (List.mem_of_getElem? (i := 2) rfl)
  have hinX6 : ∀ w ∈ u_ws RX6 TX6 17, w ∈ wsX6_feedNumber := fun _ h => List.mem_cons_of_mem _ (List.mem_append_right _ h)
  refine lv_bipush (v := 24) hx hb dX6_feedNumber_0 (by decide +kernel) ?_
  refine lv_istore_n (lv' := [(2, .int 24), (0, .ref p0), (1, .int p1)]) hx hb dX6_feedNumber_2 rfl hl (by decide) rfl (fun ls hl => ?_)
  refine lv_iload_n hx hb dX6_feedNumber_3 rfl (lv_at hl 0 rfl) ?_
  refine lv_if_lt (tgt := 51) hx hb dX6_feedNumber_4 (by decide) (fun q9 => absurd q9 (by decide +kernel)) (fun _ => ?_)
  refine lv_aload_n hx hb dX6_feedNumber_7 rfl (lv_at hl 1 rfl) ?_
  refine k_get (D := (dC, dI)) (ci := 6) (v := .int 8) (C := RX6) (T := TX6) (N := 17) hx hb hts hinX6 hown hK hP 0 rfl rfl 1 (by decide) w_0 rfl rfl dX6_feedNumber_8 ?_
  refine lv_aload_n hx hb dX6_feedNumber_11 rfl (lv_at hl 1 rfl) ?_
  refine k_get (D := (dC, dI)) (ci := 6) (v := .ref (p2 0)) (C := RX6) (T := TX6) (N := 17) hx hb hts hinX6 hown hK hP 0 rfl rfl 0 (by decide) w_1 rfl rfl dX6_feedNumber_12 ?_
  refine va_alen (v := 1600) hx hb hK hP 1 0 rfl rfl rfl dX6_feedNumber_15 ?_
  refine lv_icmp_ge (tgt := 45) hx hb dX6_feedNumber_16 (by decide) (fun q9 => absurd q9 (by decide +kernel)) (fun _ => ?_)
  refine lv_aload_n hx hb dX6_feedNumber_19 rfl (lv_at hl 1 rfl) ?_
  refine k_get (D := (dC, dI)) (ci := 6) (v := .ref (p2 0)) (C := RX6) (T := TX6) (N := 17) hx hb hts hinX6 hown hK hP 0 rfl rfl 0 (by decide) w_1 rfl rfl dX6_feedNumber_20 ?_
  refine lv_aload_n hx hb dX6_feedNumber_23 rfl (lv_at hl 1 rfl) ?_
  refine k_get (D := (dC, dI)) (ci := 6) (v := .int 8) (C := RX6) (T := TX6) (N := 17) hx hb hts hinX6 hown hK hP 0 rfl rfl 1 (by decide) w_0 rfl rfl dX6_feedNumber_24 ?_
  refine lv_iload_n hx hb dX6_feedNumber_27 rfl (lv_at hl 2 rfl) ?_
  refine lv_iload_n hx hb dX6_feedNumber_28 rfl (lv_at hl 0 rfl) ?_
  refine lv_iushr (v := (p1.toUInt32 >>> ((24 : Int32).toUInt32 &&& Int32.toUInt32 31)).toInt32) hx hb dX6_feedNumber_29 rfl ?_
  refine lv_sipush (v := 255) hx hb dX6_feedNumber_30 (by decide +kernel) ?_
  refine lv_iand hx hb dX6_feedNumber_33 ?_
  refine lv_topi (fun y_1 ey_1 => ?_)
  refine k_iast (g := (upd (upd (upd (upd (upd (upd (upd (upd (upd (fun _ => 0) 0 p3) 1 p4) 2 p5) 3 p6) 4 p7) 5 p8) 6 p9) 7 p10) 8 y_1)) (ws' := [(p0, .inr (6, [.ref (p2 0), .int 8, .ref (p2 1), .ref (p2 14), .ref (p2 27), .ref (p2 28), .ref (p2 29), .ref (p2 30), .ref (p2 54), .null, .int 1, .int 1, .int 999, .ref (p2 61), .ref (p2 62), .ref (p2 63), .ref (p2 60)])), ((p2 0), .inl (cI, 1600, .inl (upd (upd (upd (upd (upd (upd (upd (upd (upd (fun _ => 0) 0 p3) 1 p4) 2 p5) 3 p6) 4 p7) 5 p8) 6 p9) 7 p10) 8 y_1)))]) hx hb hK hP hD hS 1 0 8 rfl rfl rfl (Nat.le_of_ble_eq_true rfl) (Nat.le_of_ble_eq_true rfl) rfl rfl dX6_feedNumber_34 (fun H locs hP hD hS => ?_)
  refine lv_aload_n hx hb dX6_feedNumber_35 rfl (lv_at hl 1 rfl) ?_
  refine lv_dup hx hb dX6_feedNumber_36 rfl ?_
  refine k_get (D := (dC, dI)) (ci := 6) (v := .int 8) (C := RX6) (T := TX6) (N := 17) hx hb hts hinX6 hown hK hP 0 rfl rfl 1 (by decide) w_0 rfl rfl dX6_feedNumber_37 ?_
  refine lv_iconst (v := 1) hx hb dX6_feedNumber_40 (by decide +kernel) ?_
  refine lv_iadd hx hb dX6_feedNumber_41 ?_
  refine k_int (v := 9) (by decide +kernel) ?_
  refine k_put (D := (dC, dI)) (ci := 6) (v := .int 9) (C := RX6) (T := TX6) (N := 17) (ws' := [(p0, .inr (6, [.ref (p2 0), .int 9, .ref (p2 1), .ref (p2 14), .ref (p2 27), .ref (p2 28), .ref (p2 29), .ref (p2 30), .ref (p2 54), .null, .int 1, .int 1, .int 999, .ref (p2 61), .ref (p2 62), .ref (p2 63), .ref (p2 60)])), ((p2 0), .inl (cI, 1600, .inl (upd (upd (upd (upd (upd (upd (upd (upd (upd (fun _ => 0) 0 p3) 1 p4) 2 p5) 3 p6) 4 p7) 5 p8) 6 p9) 7 p10) 8 y_1)))]) hx hb hts hinX6 tyX6 tyX6_ok nmX6 hown hK hP hD hS 0 rfl rfl 1 (by decide) w_0 rfl rfl rfl rfl (Nat.le_of_ble_eq_true rfl) rfl dX6_feedNumber_42 (fun H locs hP hD hS => ?_)
  refine lv_iinc (v := 16) (lv' := [(2, .int 16), (0, .ref p0), (1, .int p1)]) hx hb dX6_feedNumber_45 hl (k := 0) rfl (by decide +kernel) (by decide) rfl (fun ls hl => ?_)
  refine lv_goto (tgt := 3) hx hb dX6_feedNumber_48 (by decide) ?_
  refine lv_iload_n hx hb dX6_feedNumber_3 rfl (lv_at hl 0 rfl) ?_
  refine lv_if_lt (tgt := 51) hx hb dX6_feedNumber_4 (by decide) (fun q9 => absurd q9 (by decide +kernel)) (fun _ => ?_)
  refine lv_aload_n hx hb dX6_feedNumber_7 rfl (lv_at hl 1 rfl) ?_
  refine k_get (D := (dC, dI)) (ci := 6) (v := .int 9) (C := RX6) (T := TX6) (N := 17) hx hb hts hinX6 hown hK hP 0 rfl rfl 1 (by decide) w_0 rfl rfl dX6_feedNumber_8 ?_
  refine lv_aload_n hx hb dX6_feedNumber_11 rfl (lv_at hl 1 rfl) ?_
  refine k_get (D := (dC, dI)) (ci := 6) (v := .ref (p2 0)) (C := RX6) (T := TX6) (N := 17) hx hb hts hinX6 hown hK hP 0 rfl rfl 0 (by decide) w_1 rfl rfl dX6_feedNumber_12 ?_
  refine va_alen (v := 1600) hx hb hK hP 1 0 rfl rfl rfl dX6_feedNumber_15 ?_
  refine lv_icmp_ge (tgt := 45) hx hb dX6_feedNumber_16 (by decide) (fun q9 => absurd q9 (by decide +kernel)) (fun _ => ?_)
  refine lv_aload_n hx hb dX6_feedNumber_19 rfl (lv_at hl 1 rfl) ?_
  refine k_get (D := (dC, dI)) (ci := 6) (v := .ref (p2 0)) (C := RX6) (T := TX6) (N := 17) hx hb hts hinX6 hown hK hP 0 rfl rfl 0 (by decide) w_1 rfl rfl dX6_feedNumber_20 ?_
  refine lv_aload_n hx hb dX6_feedNumber_23 rfl (lv_at hl 1 rfl) ?_
  refine k_get (D := (dC, dI)) (ci := 6) (v := .int 9) (C := RX6) (T := TX6) (N := 17) hx hb hts hinX6 hown hK hP 0 rfl rfl 1 (by decide) w_0 rfl rfl dX6_feedNumber_24 ?_
  refine lv_iload_n hx hb dX6_feedNumber_27 rfl (lv_at hl 2 rfl) ?_
  refine lv_iload_n hx hb dX6_feedNumber_28 rfl (lv_at hl 0 rfl) ?_
  refine lv_iushr (v := (p1.toUInt32 >>> ((16 : Int32).toUInt32 &&& Int32.toUInt32 31)).toInt32) hx hb dX6_feedNumber_29 rfl ?_
  refine lv_sipush (v := 255) hx hb dX6_feedNumber_30 (by decide +kernel) ?_
  refine lv_iand hx hb dX6_feedNumber_33 ?_
  refine lv_topi (fun y_2 ey_2 => ?_)
  refine k_iast (g := (upd (upd (upd (upd (upd (upd (upd (upd (upd (upd (fun _ => 0) 0 p3) 1 p4) 2 p5) 3 p6) 4 p7) 5 p8) 6 p9) 7 p10) 8 y_1) 9 y_2)) (ws' := [(p0, .inr (6, [.ref (p2 0), .int 9, .ref (p2 1), .ref (p2 14), .ref (p2 27), .ref (p2 28), .ref (p2 29), .ref (p2 30), .ref (p2 54), .null, .int 1, .int 1, .int 999, .ref (p2 61), .ref (p2 62), .ref (p2 63), .ref (p2 60)])), ((p2 0), .inl (cI, 1600, .inl (upd (upd (upd (upd (upd (upd (upd (upd (upd (upd (fun _ => 0) 0 p3) 1 p4) 2 p5) 3 p6) 4 p7) 5 p8) 6 p9) 7 p10) 8 y_1) 9 y_2)))]) hx hb hK hP hD hS 1 0 9 rfl rfl rfl (Nat.le_of_ble_eq_true rfl) (Nat.le_of_ble_eq_true rfl) rfl rfl dX6_feedNumber_34 (fun H locs hP hD hS => ?_)
  refine lv_aload_n hx hb dX6_feedNumber_35 rfl (lv_at hl 1 rfl) ?_
  refine lv_dup hx hb dX6_feedNumber_36 rfl ?_
  refine k_get (D := (dC, dI)) (ci := 6) (v := .int 9) (C := RX6) (T := TX6) (N := 17) hx hb hts hinX6 hown hK hP 0 rfl rfl 1 (by decide) w_0 rfl rfl dX6_feedNumber_37 ?_
  refine lv_iconst (v := 1) hx hb dX6_feedNumber_40 (by decide +kernel) ?_
  refine lv_iadd hx hb dX6_feedNumber_41 ?_
  refine k_int (v := 10) (by decide +kernel) ?_
  refine k_put (D := (dC, dI)) (ci := 6) (v := .int 10) (C := RX6) (T := TX6) (N := 17) (ws' := [(p0, .inr (6, [.ref (p2 0), .int 10, .ref (p2 1), .ref (p2 14), .ref (p2 27), .ref (p2 28), .ref (p2 29), .ref (p2 30), .ref (p2 54), .null, .int 1, .int 1, .int 999, .ref (p2 61), .ref (p2 62), .ref (p2 63), .ref (p2 60)])), ((p2 0), .inl (cI, 1600, .inl (upd (upd (upd (upd (upd (upd (upd (upd (upd (upd (fun _ => 0) 0 p3) 1 p4) 2 p5) 3 p6) 4 p7) 5 p8) 6 p9) 7 p10) 8 y_1) 9 y_2)))]) hx hb hts hinX6 tyX6 tyX6_ok nmX6 hown hK hP hD hS 0 rfl rfl 1 (by decide) w_0 rfl rfl rfl rfl (Nat.le_of_ble_eq_true rfl) rfl dX6_feedNumber_42 (fun H locs hP hD hS => ?_)
  refine lv_iinc (v := 8) (lv' := [(2, .int 8), (0, .ref p0), (1, .int p1)]) hx hb dX6_feedNumber_45 hl (k := 0) rfl (by decide +kernel) (by decide) rfl (fun ls hl => ?_)
  refine lv_goto (tgt := 3) hx hb dX6_feedNumber_48 (by decide) ?_
  refine lv_iload_n hx hb dX6_feedNumber_3 rfl (lv_at hl 0 rfl) ?_
  refine lv_if_lt (tgt := 51) hx hb dX6_feedNumber_4 (by decide) (fun q9 => absurd q9 (by decide +kernel)) (fun _ => ?_)
  refine lv_aload_n hx hb dX6_feedNumber_7 rfl (lv_at hl 1 rfl) ?_
  refine k_get (D := (dC, dI)) (ci := 6) (v := .int 10) (C := RX6) (T := TX6) (N := 17) hx hb hts hinX6 hown hK hP 0 rfl rfl 1 (by decide) w_0 rfl rfl dX6_feedNumber_8 ?_
  refine lv_aload_n hx hb dX6_feedNumber_11 rfl (lv_at hl 1 rfl) ?_
  refine k_get (D := (dC, dI)) (ci := 6) (v := .ref (p2 0)) (C := RX6) (T := TX6) (N := 17) hx hb hts hinX6 hown hK hP 0 rfl rfl 0 (by decide) w_1 rfl rfl dX6_feedNumber_12 ?_
  refine va_alen (v := 1600) hx hb hK hP 1 0 rfl rfl rfl dX6_feedNumber_15 ?_
  refine lv_icmp_ge (tgt := 45) hx hb dX6_feedNumber_16 (by decide) (fun q9 => absurd q9 (by decide +kernel)) (fun _ => ?_)
  refine lv_aload_n hx hb dX6_feedNumber_19 rfl (lv_at hl 1 rfl) ?_
  refine k_get (D := (dC, dI)) (ci := 6) (v := .ref (p2 0)) (C := RX6) (T := TX6) (N := 17) hx hb hts hinX6 hown hK hP 0 rfl rfl 0 (by decide) w_1 rfl rfl dX6_feedNumber_20 ?_
  refine lv_aload_n hx hb dX6_feedNumber_23 rfl (lv_at hl 1 rfl) ?_
  refine k_get (D := (dC, dI)) (ci := 6) (v := .int 10) (C := RX6) (T := TX6) (N := 17) hx hb hts hinX6 hown hK hP 0 rfl rfl 1 (by decide) w_0 rfl rfl dX6_feedNumber_24 ?_
  refine lv_iload_n hx hb dX6_feedNumber_27 rfl (lv_at hl 2 rfl) ?_
  refine lv_iload_n hx hb dX6_feedNumber_28 rfl (lv_at hl 0 rfl) ?_
  refine lv_iushr (v := (p1.toUInt32 >>> ((8 : Int32).toUInt32 &&& Int32.toUInt32 31)).toInt32) hx hb dX6_feedNumber_29 rfl ?_
  refine lv_sipush (v := 255) hx hb dX6_feedNumber_30 (by decide +kernel) ?_
  refine lv_iand hx hb dX6_feedNumber_33 ?_
  refine lv_topi (fun y_3 ey_3 => ?_)
  refine k_iast (g := (upd (upd (upd (upd (upd (upd (upd (upd (upd (upd (upd (fun _ => 0) 0 p3) 1 p4) 2 p5) 3 p6) 4 p7) 5 p8) 6 p9) 7 p10) 8 y_1) 9 y_2) 10 y_3)) (ws' := [(p0, .inr (6, [.ref (p2 0), .int 10, .ref (p2 1), .ref (p2 14), .ref (p2 27), .ref (p2 28), .ref (p2 29), .ref (p2 30), .ref (p2 54), .null, .int 1, .int 1, .int 999, .ref (p2 61), .ref (p2 62), .ref (p2 63), .ref (p2 60)])), ((p2 0), .inl (cI, 1600, .inl (upd (upd (upd (upd (upd (upd (upd (upd (upd (upd (upd (fun _ => 0) 0 p3) 1 p4) 2 p5) 3 p6) 4 p7) 5 p8) 6 p9) 7 p10) 8 y_1) 9 y_2) 10 y_3)))]) hx hb hK hP hD hS 1 0 10 rfl rfl rfl (Nat.le_of_ble_eq_true rfl) (Nat.le_of_ble_eq_true rfl) rfl rfl dX6_feedNumber_34 (fun H locs hP hD hS => ?_)
  refine lv_aload_n hx hb dX6_feedNumber_35 rfl (lv_at hl 1 rfl) ?_
  refine lv_dup hx hb dX6_feedNumber_36 rfl ?_
  refine k_get (D := (dC, dI)) (ci := 6) (v := .int 10) (C := RX6) (T := TX6) (N := 17) hx hb hts hinX6 hown hK hP 0 rfl rfl 1 (by decide) w_0 rfl rfl dX6_feedNumber_37 ?_
  refine lv_iconst (v := 1) hx hb dX6_feedNumber_40 (by decide +kernel) ?_
  refine lv_iadd hx hb dX6_feedNumber_41 ?_
  refine k_int (v := 11) (by decide +kernel) ?_
  refine k_put (D := (dC, dI)) (ci := 6) (v := .int 11) (C := RX6) (T := TX6) (N := 17) (ws' := [(p0, .inr (6, [.ref (p2 0), .int 11, .ref (p2 1), .ref (p2 14), .ref (p2 27), .ref (p2 28), .ref (p2 29), .ref (p2 30), .ref (p2 54), .null, .int 1, .int 1, .int 999, .ref (p2 61), .ref (p2 62), .ref (p2 63), .ref (p2 60)])), ((p2 0), .inl (cI, 1600, .inl (upd (upd (upd (upd (upd (upd (upd (upd (upd (upd (upd (fun _ => 0) 0 p3) 1 p4) 2 p5) 3 p6) 4 p7) 5 p8) 6 p9) 7 p10) 8 y_1) 9 y_2) 10 y_3)))]) hx hb hts hinX6 tyX6 tyX6_ok nmX6 hown hK hP hD hS 0 rfl rfl 1 (by decide) w_0 rfl rfl rfl rfl (Nat.le_of_ble_eq_true rfl) rfl dX6_feedNumber_42 (fun H locs hP hD hS => ?_)
  refine lv_iinc (v := 0) (lv' := [(2, .int 0), (0, .ref p0), (1, .int p1)]) hx hb dX6_feedNumber_45 hl (k := 0) rfl (by decide +kernel) (by decide) rfl (fun ls hl => ?_)
  refine lv_goto (tgt := 3) hx hb dX6_feedNumber_48 (by decide) ?_
  refine lv_iload_n hx hb dX6_feedNumber_3 rfl (lv_at hl 0 rfl) ?_
  refine lv_if_lt (tgt := 51) hx hb dX6_feedNumber_4 (by decide) (fun q9 => absurd q9 (by decide +kernel)) (fun _ => ?_)
  refine lv_aload_n hx hb dX6_feedNumber_7 rfl (lv_at hl 1 rfl) ?_
  refine k_get (D := (dC, dI)) (ci := 6) (v := .int 11) (C := RX6) (T := TX6) (N := 17) hx hb hts hinX6 hown hK hP 0 rfl rfl 1 (by decide) w_0 rfl rfl dX6_feedNumber_8 ?_
  refine lv_aload_n hx hb dX6_feedNumber_11 rfl (lv_at hl 1 rfl) ?_
  refine k_get (D := (dC, dI)) (ci := 6) (v := .ref (p2 0)) (C := RX6) (T := TX6) (N := 17) hx hb hts hinX6 hown hK hP 0 rfl rfl 0 (by decide) w_1 rfl rfl dX6_feedNumber_12 ?_
  refine va_alen (v := 1600) hx hb hK hP 1 0 rfl rfl rfl dX6_feedNumber_15 ?_
  refine lv_icmp_ge (tgt := 45) hx hb dX6_feedNumber_16 (by decide) (fun q9 => absurd q9 (by decide +kernel)) (fun _ => ?_)
  refine lv_aload_n hx hb dX6_feedNumber_19 rfl (lv_at hl 1 rfl) ?_
  refine k_get (D := (dC, dI)) (ci := 6) (v := .ref (p2 0)) (C := RX6) (T := TX6) (N := 17) hx hb hts hinX6 hown hK hP 0 rfl rfl 0 (by decide) w_1 rfl rfl dX6_feedNumber_20 ?_
  refine lv_aload_n hx hb dX6_feedNumber_23 rfl (lv_at hl 1 rfl) ?_
  refine k_get (D := (dC, dI)) (ci := 6) (v := .int 11) (C := RX6) (T := TX6) (N := 17) hx hb hts hinX6 hown hK hP 0 rfl rfl 1 (by decide) w_0 rfl rfl dX6_feedNumber_24 ?_
  refine lv_iload_n hx hb dX6_feedNumber_27 rfl (lv_at hl 2 rfl) ?_
  refine lv_iload_n hx hb dX6_feedNumber_28 rfl (lv_at hl 0 rfl) ?_
  refine lv_iushr (v := (p1.toUInt32 >>> ((0 : Int32).toUInt32 &&& Int32.toUInt32 31)).toInt32) hx hb dX6_feedNumber_29 rfl ?_
  refine lv_sipush (v := 255) hx hb dX6_feedNumber_30 (by decide +kernel) ?_
  refine lv_iand hx hb dX6_feedNumber_33 ?_
  refine lv_topi (fun y_4 ey_4 => ?_)
  refine k_iast (g := (upd (upd (upd (upd (upd (upd (upd (upd (upd (upd (upd (upd (fun _ => 0) 0 p3) 1 p4) 2 p5) 3 p6) 4 p7) 5 p8) 6 p9) 7 p10) 8 y_1) 9 y_2) 10 y_3) 11 y_4)) (ws' := [(p0, .inr (6, [.ref (p2 0), .int 11, .ref (p2 1), .ref (p2 14), .ref (p2 27), .ref (p2 28), .ref (p2 29), .ref (p2 30), .ref (p2 54), .null, .int 1, .int 1, .int 999, .ref (p2 61), .ref (p2 62), .ref (p2 63), .ref (p2 60)])), ((p2 0), .inl (cI, 1600, .inl (upd (upd (upd (upd (upd (upd (upd (upd (upd (upd (upd (upd (fun _ => 0) 0 p3) 1 p4) 2 p5) 3 p6) 4 p7) 5 p8) 6 p9) 7 p10) 8 y_1) 9 y_2) 10 y_3) 11 y_4)))]) hx hb hK hP hD hS 1 0 11 rfl rfl rfl (Nat.le_of_ble_eq_true rfl) (Nat.le_of_ble_eq_true rfl) rfl rfl dX6_feedNumber_34 (fun H locs hP hD hS => ?_)
  refine lv_aload_n hx hb dX6_feedNumber_35 rfl (lv_at hl 1 rfl) ?_
  refine lv_dup hx hb dX6_feedNumber_36 rfl ?_
  refine k_get (D := (dC, dI)) (ci := 6) (v := .int 11) (C := RX6) (T := TX6) (N := 17) hx hb hts hinX6 hown hK hP 0 rfl rfl 1 (by decide) w_0 rfl rfl dX6_feedNumber_37 ?_
  refine lv_iconst (v := 1) hx hb dX6_feedNumber_40 (by decide +kernel) ?_
  refine lv_iadd hx hb dX6_feedNumber_41 ?_
  refine k_int (v := 12) (by decide +kernel) ?_
  refine k_put (D := (dC, dI)) (ci := 6) (v := .int 12) (C := RX6) (T := TX6) (N := 17) (ws' := [(p0, .inr (6, [.ref (p2 0), .int 12, .ref (p2 1), .ref (p2 14), .ref (p2 27), .ref (p2 28), .ref (p2 29), .ref (p2 30), .ref (p2 54), .null, .int 1, .int 1, .int 999, .ref (p2 61), .ref (p2 62), .ref (p2 63), .ref (p2 60)])), ((p2 0), .inl (cI, 1600, .inl (upd (upd (upd (upd (upd (upd (upd (upd (upd (upd (upd (upd (fun _ => 0) 0 p3) 1 p4) 2 p5) 3 p6) 4 p7) 5 p8) 6 p9) 7 p10) 8 y_1) 9 y_2) 10 y_3) 11 y_4)))]) hx hb hts hinX6 tyX6 tyX6_ok nmX6 hown hK hP hD hS 0 rfl rfl 1 (by decide) w_0 rfl rfl rfl rfl (Nat.le_of_ble_eq_true rfl) rfl dX6_feedNumber_42 (fun H locs hP hD hS => ?_)
  refine lv_iinc (v := (-8)) (lv' := [(2, .int (-8)), (0, .ref p0), (1, .int p1)]) hx hb dX6_feedNumber_45 hl (k := 0) rfl (by decide +kernel) (by decide) rfl (fun ls hl => ?_)
  refine lv_goto (tgt := 3) hx hb dX6_feedNumber_48 (by decide) ?_
  refine lv_iload_n hx hb dX6_feedNumber_3 rfl (lv_at hl 0 rfl) ?_
  refine lv_if_lt (tgt := 51) hx hb dX6_feedNumber_4 (by decide) (fun _ => ?_) (fun q9 => absurd q9 (by decide +kernel))
  subst ey_4
  subst ey_3
  subst ey_2
  subst ey_1
  exact k_rv B hP hD hS dX6_feedNumber_51 () [0, 1] rfl rfl (Nat.le_of_ble_eq_true rfl) (Nat.le_of_ble_eq_true rfl) trivial
set_option maxHeartbeats 4000000 in
set_option maxRecDepth 100000 in
theorem c_X6_feedNumber_v3 (l : Launch) (dC : Nat → ClassId) (dI : Nat → Nat → Nat) (cI cJ cZ cM : ClassId) (p0 : Nat) (p1 : Int32) (p2 : Nat → Nat) (p3 : Int32) (p4 : Int32) (p5 : Int32) (p6 : Int32) (p7 : Int32) (p8 : Int32) (p9 : Int32) (p10 : Int32) (p11 : Int32) (p12 : Int32) (p13 : Int32) (p14 : Int32)   : k_Mv l yX6_feedNumber wsX6_feedNumber ({ frames := 1, cells := 0, slots := 0, locals := 40 }) (dC, dI) vwCl (tyy cI cJ cZ cM) [(p0, .inr (6, [.ref (p2 0), .int 12, .ref (p2 1), .ref (p2 14), .ref (p2 27), .ref (p2 28), .ref (p2 29), .ref (p2 30), .ref (p2 54), .null, .int 1, .int 1, .int 999, .ref (p2 61), .ref (p2 62), .ref (p2 63), .ref (p2 60)])), ((p2 0), .inl (cI, 1600, .inl (upd (upd (upd (upd (upd (upd (upd (upd (upd (upd (upd (upd (fun _ => 0) 0 p3) 1 p4) 2 p5) 3 p6) 4 p7) 5 p8) 6 p9) 7 p10) 8 p11) 9 p12) 10 p13) 11 p14)))] [.ref p0, .int p1] 0 0 (fun (u9 : Unit) => [(p0, .inr (6, [.ref (p2 0), .int 16, .ref (p2 1), .ref (p2 14), .ref (p2 27), .ref (p2 28), .ref (p2 29), .ref (p2 30), .ref (p2 54), .null, .int 1, .int 1, .int 999, .ref (p2 61), .ref (p2 62), .ref (p2 63), .ref (p2 60)])), ((p2 0), .inl (cI, 1600, .inl (upd (upd (upd (upd (upd (upd (upd (upd (upd (upd (upd (upd (upd (upd (upd (upd (fun _ => 0) 0 p3) 1 p4) 2 p5) 3 p6) 4 p7) 5 p8) 6 p9) 7 p10) 8 p11) 9 p12) 10 p13) 11 p14) 12 (((p1.toUInt32 >>> ((24 : Int32).toUInt32 &&& Int32.toUInt32 31)).toInt32) &&& 255)) 13 (((p1.toUInt32 >>> ((16 : Int32).toUInt32 &&& Int32.toUInt32 31)).toInt32) &&& 255)) 14 (((p1.toUInt32 >>> ((8 : Int32).toUInt32 &&& Int32.toUInt32 31)).toInt32) &&& 255)) 15 (((p1.toUInt32 >>> ((0 : Int32).toUInt32 &&& Int32.toUInt32 31)).toInt32) &&& 255))))]) (fun (u9 : Unit) => True) := by
  refine fun sz => k_enter (cc := cX6_feedNumber) (maxL := 3) (ret := none) (Qc := fun A => va_Qv (fun (u9 : Unit) => True) (fun u => k_B (dC, dI) vwCl (tyy cI cJ cZ cM) A ((fun (u9 : Unit) => [(p0, .inr (6, [.ref (p2 0), .int 16, .ref (p2 1), .ref (p2 14), .ref (p2 27), .ref (p2 28), .ref (p2 29), .ref (p2 30), .ref (p2 54), .null, .int 1, .int 1, .int 999, .ref (p2 61), .ref (p2 62), .ref (p2 63), .ref (p2 60)])), ((p2 0), .inl (cI, 1600, .inl (upd (upd (upd (upd (upd (upd (upd (upd (upd (upd (upd (upd (upd (upd (upd (upd (fun _ => 0) 0 p3) 1 p4) 2 p5) 3 p6) 4 p7) 5 p8) 6 p9) 7 p10) 8 p11) 9 p12) 10 p13) 11 p14) 12 (((p1.toUInt32 >>> ((24 : Int32).toUInt32 &&& Int32.toUInt32 31)).toInt32) &&& 255)) 13 (((p1.toUInt32 >>> ((16 : Int32).toUInt32 &&& Int32.toUInt32 31)).toInt32) &&& 255)) 14 (((p1.toUInt32 >>> ((8 : Int32).toUInt32 &&& Int32.toUInt32 31)).toInt32) &&& 255)) 15 (((p1.toUInt32 >>> ((0 : Int32).toUInt32 &&& Int32.toUInt32 31)).toInt32) &&& 255))))]) u)) A) sz (by decide +kernel) rfl (Nat.le_of_ble_eq_true rfl) (fun p e s m args below meth c A ls H locs B hP hD hS hl => ?_)
  obtain ⟨hx, hb, hml, hown, hts, hr, hlk, hnm, hK, hA, hN, hC⟩ := id B
  have hown : s.vm.findClass RX6 = some m.cls := hown
  have hl : lv_has ls 3 [(0, .ref p0), (1, .int p1)] := hl
  have w_0 : (Cond.fieldLink RX6 92 "WishSea" "tapeLength" "I").before args s = true := hts _ (List.mem_of_getElem? (i := 1) rfl)
  have w_1 : (Cond.fieldLink RX6 9 "WishSea" "tape" "[I").before args s = true := hts _ (List.mem_of_getElem? (i := 2) rfl)
  have hinX6 : ∀ w ∈ u_ws RX6 TX6 17, w ∈ wsX6_feedNumber := fun _ h => List.mem_cons_of_mem _ (List.mem_append_right _ h)
  refine lv_bipush (v := 24) hx hb dX6_feedNumber_0 (by decide +kernel) ?_
  refine lv_istore_n (lv' := [(2, .int 24), (0, .ref p0), (1, .int p1)]) hx hb dX6_feedNumber_2 rfl hl (by decide) rfl (fun ls hl => ?_)
  refine lv_iload_n hx hb dX6_feedNumber_3 rfl (lv_at hl 0 rfl) ?_
  refine lv_if_lt (tgt := 51) hx hb dX6_feedNumber_4 (by decide) (fun q9 => absurd q9 (by decide +kernel)) (fun _ => ?_)
  refine lv_aload_n hx hb dX6_feedNumber_7 rfl (lv_at hl 1 rfl) ?_
  refine k_get (D := (dC, dI)) (ci := 6) (v := .int 12) (C := RX6) (T := TX6) (N := 17) hx hb hts hinX6 hown hK hP 0 rfl rfl 1 (by decide) w_0 rfl rfl dX6_feedNumber_8 ?_
  refine lv_aload_n hx hb dX6_feedNumber_11 rfl (lv_at hl 1 rfl) ?_
  refine k_get (D := (dC, dI)) (ci := 6) (v := .ref (p2 0)) (C := RX6) (T := TX6) (N := 17) hx hb hts hinX6 hown hK hP 0 rfl rfl 0 (by decide) w_1 rfl rfl dX6_feedNumber_12 ?_
  refine va_alen (v := 1600) hx hb hK hP 1 0 rfl rfl rfl dX6_feedNumber_15 ?_
  refine lv_icmp_ge (tgt := 45) hx hb dX6_feedNumber_16 (by decide) (fun q9 => absurd q9 (by decide +kernel)) (fun _ => ?_)
  refine lv_aload_n hx hb dX6_feedNumber_19 rfl (lv_at hl 1 rfl) ?_
  refine k_get (D := (dC, dI)) (ci := 6) (v := .ref (p2 0)) (C := RX6) (T := TX6) (N := 17) hx hb hts hinX6 hown hK hP 0 rfl rfl 0 (by decide) w_1 rfl rfl dX6_feedNumber_20 ?_
  refine lv_aload_n hx hb dX6_feedNumber_23 rfl (lv_at hl 1 rfl) ?_
  refine k_get (D := (dC, dI)) (ci := 6) (v := .int 12) (C := RX6) (T := TX6) (N := 17) hx hb hts hinX6 hown hK hP 0 rfl rfl 1 (by decide) w_0 rfl rfl dX6_feedNumber_24 ?_
  refine lv_iload_n hx hb dX6_feedNumber_27 rfl (lv_at hl 2 rfl) ?_
  refine lv_iload_n hx hb dX6_feedNumber_28 rfl (lv_at hl 0 rfl) ?_
  refine lv_iushr (v := (p1.toUInt32 >>> ((24 : Int32).toUInt32 &&& Int32.toUInt32 31)).toInt32) hx hb dX6_feedNumber_29 rfl ?_
  refine lv_sipush (v := 255) hx hb dX6_feedNumber_30 (by decide +kernel) ?_
  refine lv_iand hx hb dX6_feedNumber_33 ?_
  refine lv_topi (fun y_1 ey_1 => ?_)
  refine k_iast (g := (upd (upd (upd (upd (upd (upd (upd (upd (upd (upd (upd (upd (upd (fun _ => 0) 0 p3) 1 p4) 2 p5) 3 p6) 4 p7) 5 p8) 6 p9) 7 p10) 8 p11) 9 p12) 10 p13) 11 p14) 12 y_1)) (ws' := [(p0, .inr (6, [.ref (p2 0), .int 12, .ref (p2 1), .ref (p2 14), .ref (p2 27), .ref (p2 28), .ref (p2 29), .ref (p2 30), .ref (p2 54), .null, .int 1, .int 1, .int 999, .ref (p2 61), .ref (p2 62), .ref (p2 63), .ref (p2 60)])), ((p2 0), .inl (cI, 1600, .inl (upd (upd (upd (upd (upd (upd (upd (upd (upd (upd (upd (upd (upd (fun _ => 0) 0 p3) 1 p4) 2 p5) 3 p6) 4 p7) 5 p8) 6 p9) 7 p10) 8 p11) 9 p12) 10 p13) 11 p14) 12 y_1)))]) hx hb hK hP hD hS 1 0 12 rfl rfl rfl (Nat.le_of_ble_eq_true rfl) (Nat.le_of_ble_eq_true rfl) rfl rfl dX6_feedNumber_34 (fun H locs hP hD hS => ?_)
  refine lv_aload_n hx hb dX6_feedNumber_35 rfl (lv_at hl 1 rfl) ?_
  refine lv_dup hx hb dX6_feedNumber_36 rfl ?_
  refine k_get (D := (dC, dI)) (ci := 6) (v := .int 12) (C := RX6) (T := TX6) (N := 17) hx hb hts hinX6 hown hK hP 0 rfl rfl 1 (by decide) w_0 rfl rfl dX6_feedNumber_37 ?_
  refine lv_iconst (v := 1) hx hb dX6_feedNumber_40 (by decide +kernel) ?_
  refine lv_iadd hx hb dX6_feedNumber_41 ?_
  refine k_int (v := 13) (by decide +kernel) ?_
  refine k_put (D := (dC, dI)) (ci := 6) (v := .int 13) (C := RX6) (T := TX6) (N := 17) (ws' := [(p0, .inr (6, [.ref (p2 0), .int 13, .ref (p2 1), .ref (p2 14), .ref (p2 27), .ref (p2 28), .ref (p2 29), .ref (p2 30), .ref (p2 54), .null, .int 1, .int 1, .int 999, .ref (p2 61), .ref (p2 62), .ref (p2 63), .ref (p2 60)])), ((p2 0), .inl (cI, 1600, .inl (upd (upd (upd (upd (upd (upd (upd (upd (upd (upd (upd (upd (upd (fun _ => 0) 0 p3) 1 p4) 2 p5) 3 p6) 4 p7) 5 p8) 6 p9) 7 p10) 8 p11) 9 p12) 10 p13) 11 p14) 12 y_1)))]) hx hb hts hinX6 tyX6 tyX6_ok nmX6 hown hK hP hD hS 0 rfl rfl 1 (by decide) w_0 rfl rfl rfl rfl (Nat.le_of_ble_eq_true rfl) rfl dX6_feedNumber_42 (fun H locs hP hD hS => ?_)
  refine lv_iinc (v := 16) (lv' := [(2, .int 16), (0, .ref p0), (1, .int p1)]) hx hb dX6_feedNumber_45 hl (k := 0) rfl (by decide +kernel) (by decide) rfl (fun ls hl => ?_)
  refine lv_goto (tgt := 3) hx hb dX6_feedNumber_48 (by decide) ?_
  refine lv_iload_n hx hb dX6_feedNumber_3 rfl (lv_at hl 0 rfl) ?_
  refine lv_if_lt (tgt := 51) hx hb dX6_feedNumber_4 (by decide) (fun q9 => absurd q9 (by decide +kernel)) (fun _ => ?_)
  refine lv_aload_n hx hb dX6_feedNumber_7 rfl (lv_at hl 1 rfl) ?_
  refine k_get (D := (dC, dI)) (ci := 6) (v := .int 13) (C := RX6) (T := TX6) (N := 17) hx hb hts hinX6 hown hK hP 0 rfl rfl 1 (by decide) w_0 rfl rfl dX6_feedNumber_8 ?_
  refine lv_aload_n hx hb dX6_feedNumber_11 rfl (lv_at hl 1 rfl) ?_
  refine k_get (D := (dC, dI)) (ci := 6) (v := .ref (p2 0)) (C := RX6) (T := TX6) (N := 17) hx hb hts hinX6 hown hK hP 0 rfl rfl 0 (by decide) w_1 rfl rfl dX6_feedNumber_12 ?_
  refine va_alen (v := 1600) hx hb hK hP 1 0 rfl rfl rfl dX6_feedNumber_15 ?_
  refine lv_icmp_ge (tgt := 45) hx hb dX6_feedNumber_16 (by decide) (fun q9 => absurd q9 (by decide +kernel)) (fun _ => ?_)
  refine lv_aload_n hx hb dX6_feedNumber_19 rfl (lv_at hl 1 rfl) ?_
  refine k_get (D := (dC, dI)) (ci := 6) (v := .ref (p2 0)) (C := RX6) (T := TX6) (N := 17) hx hb hts hinX6 hown hK hP 0 rfl rfl 0 (by decide) w_1 rfl rfl dX6_feedNumber_20 ?_
  refine lv_aload_n hx hb dX6_feedNumber_23 rfl (lv_at hl 1 rfl) ?_
  refine k_get (D := (dC, dI)) (ci := 6) (v := .int 13) (C := RX6) (T := TX6) (N := 17) hx hb hts hinX6 hown hK hP 0 rfl rfl 1 (by decide) w_0 rfl rfl dX6_feedNumber_24 ?_
  refine lv_iload_n hx hb dX6_feedNumber_27 rfl (lv_at hl 2 rfl) ?_
  refine lv_iload_n hx hb dX6_feedNumber_28 rfl (lv_at hl 0 rfl) ?_
  refine lv_iushr (v := (p1.toUInt32 >>> ((16 : Int32).toUInt32 &&& Int32.toUInt32 31)).toInt32) hx hb dX6_feedNumber_29 rfl ?_
  refine lv_sipush (v := 255) hx hb dX6_feedNumber_30 (by decide +kernel) ?_
  refine lv_iand hx hb dX6_feedNumber_33 ?_
  refine lv_topi (fun y_2 ey_2 => ?_)
  refine k_iast (g := (upd (upd (upd (upd (upd (upd (upd (upd (upd (upd (upd (upd (upd (upd (fun _ => 0) 0 p3) 1 p4) 2 p5) 3 p6) 4 p7) 5 p8) 6 p9) 7 p10) 8 p11) 9 p12) 10 p13) 11 p14) 12 y_1) 13 y_2)) (ws' := [(p0, .inr (6, [.ref (p2 0), .int 13, .ref (p2 1), .ref (p2 14), .ref (p2 27), .ref (p2 28), .ref (p2 29), .ref (p2 30), .ref (p2 54), .null, .int 1, .int 1, .int 999, .ref (p2 61), .ref (p2 62), .ref (p2 63), .ref (p2 60)])), ((p2 0), .inl (cI, 1600, .inl (upd (upd (upd (upd (upd (upd (upd (upd (upd (upd (upd (upd (upd (upd (fun _ => 0) 0 p3) 1 p4) 2 p5) 3 p6) 4 p7) 5 p8) 6 p9) 7 p10) 8 p11) 9 p12) 10 p13) 11 p14) 12 y_1) 13 y_2)))]) hx hb hK hP hD hS 1 0 13 rfl rfl rfl (Nat.le_of_ble_eq_true rfl) (Nat.le_of_ble_eq_true rfl) rfl rfl dX6_feedNumber_34 (fun H locs hP hD hS => ?_)
  refine lv_aload_n hx hb dX6_feedNumber_35 rfl (lv_at hl 1 rfl) ?_
  refine lv_dup hx hb dX6_feedNumber_36 rfl ?_
  refine k_get (D := (dC, dI)) (ci := 6) (v := .int 13) (C := RX6) (T := TX6) (N := 17) hx hb hts hinX6 hown hK hP 0 rfl rfl 1 (by decide) w_0 rfl rfl dX6_feedNumber_37 ?_
  refine lv_iconst (v := 1) hx hb dX6_feedNumber_40 (by decide +kernel) ?_
  refine lv_iadd hx hb dX6_feedNumber_41 ?_
  refine k_int (v := 14) (by decide +kernel) ?_
  refine k_put (D := (dC, dI)) (ci := 6) (v := .int 14) (C := RX6) (T := TX6) (N := 17) (ws' := [(p0, .inr (6, [.ref (p2 0), .int 14, .ref (p2 1), .ref (p2 14), .ref (p2 27), .ref (p2 28), .ref (p2 29), .ref (p2 30), .ref (p2 54), .null, .int 1, .int 1, .int 999, .ref (p2 61), .ref (p2 62), .ref (p2 63), .ref (p2 60)])), ((p2 0), .inl (cI, 1600, .inl (upd (upd (upd (upd (upd (upd (upd (upd (upd (upd (upd (upd (upd (upd (fun _ => 0) 0 p3) 1 p4) 2 p5) 3 p6) 4 p7) 5 p8) 6 p9) 7 p10) 8 p11) 9 p12) 10 p13) 11 p14) 12 y_1) 13 y_2)))]) hx hb hts hinX6 tyX6 tyX6_ok nmX6 hown hK hP hD hS 0 rfl rfl 1 (by decide) w_0 rfl rfl rfl rfl (Nat.le_of_ble_eq_true rfl) rfl dX6_feedNumber_42 (fun H locs hP hD hS => ?_)
  refine lv_iinc (v := 8) (lv' := [(2, .int 8), (0, .ref p0), (1, .int p1)]) hx hb dX6_feedNumber_45 hl (k := 0) rfl (by decide +kernel) (by decide) rfl (fun ls hl => ?_)
  refine lv_goto (tgt := 3) hx hb dX6_feedNumber_48 (by decide) ?_
  refine lv_iload_n hx hb dX6_feedNumber_3 rfl (lv_at hl 0 rfl) ?_
  refine lv_if_lt (tgt := 51) hx hb dX6_feedNumber_4 (by decide) (fun q9 => absurd q9 (by decide +kernel)) (fun _ => ?_)
  refine lv_aload_n hx hb dX6_feedNumber_7 rfl (lv_at hl 1 rfl) ?_
  refine k_get (D := (dC, dI)) (ci := 6) (v := .int 14) (C := RX6) (T := TX6) (N := 17) hx hb hts hinX6 hown hK hP 0 rfl rfl 1 (by decide) w_0 rfl rfl dX6_feedNumber_8 ?_
  refine lv_aload_n hx hb dX6_feedNumber_11 rfl (lv_at hl 1 rfl) ?_
  refine k_get (D := (dC, dI)) (ci := 6) (v := .ref (p2 0)) (C := RX6) (T := TX6) (N := 17) hx hb hts hinX6 hown hK hP 0 rfl rfl 0 (by decide) w_1 rfl rfl dX6_feedNumber_12 ?_
  refine va_alen (v := 1600) hx hb hK hP 1 0 rfl rfl rfl dX6_feedNumber_15 ?_
  refine lv_icmp_ge (tgt := 45) hx hb dX6_feedNumber_16 (by decide) (fun q9 => absurd q9 (by decide +kernel)) (fun _ => ?_)
  refine lv_aload_n hx hb dX6_feedNumber_19 rfl (lv_at hl 1 rfl) ?_
  refine k_get (D := (dC, dI)) (ci := 6) (v := .ref (p2 0)) (C := RX6) (T := TX6) (N := 17) hx hb hts hinX6 hown hK hP 0 rfl rfl 0 (by decide) w_1 rfl rfl dX6_feedNumber_20 ?_
  refine lv_aload_n hx hb dX6_feedNumber_23 rfl (lv_at hl 1 rfl) ?_
  refine k_get (D := (dC, dI)) (ci := 6) (v := .int 14) (C := RX6) (T := TX6) (N := 17) hx hb hts hinX6 hown hK hP 0 rfl rfl 1 (by decide) w_0 rfl rfl dX6_feedNumber_24 ?_
  refine lv_iload_n hx hb dX6_feedNumber_27 rfl (lv_at hl 2 rfl) ?_
  refine lv_iload_n hx hb dX6_feedNumber_28 rfl (lv_at hl 0 rfl) ?_
  refine lv_iushr (v := (p1.toUInt32 >>> ((8 : Int32).toUInt32 &&& Int32.toUInt32 31)).toInt32) hx hb dX6_feedNumber_29 rfl ?_
  refine lv_sipush (v := 255) hx hb dX6_feedNumber_30 (by decide +kernel) ?_
  refine lv_iand hx hb dX6_feedNumber_33 ?_
  refine lv_topi (fun y_3 ey_3 => ?_)
  refine k_iast (g := (upd (upd (upd (upd (upd (upd (upd (upd (upd (upd (upd (upd (upd (upd (upd (fun _ => 0) 0 p3) 1 p4) 2 p5) 3 p6) 4 p7) 5 p8) 6 p9) 7 p10) 8 p11) 9 p12) 10 p13) 11 p14) 12 y_1) 13 y_2) 14 y_3)) (ws' := [(p0, .inr (6, [.ref (p2 0), .int 14, .ref (p2 1), .ref (p2 14), .ref (p2 27), .ref (p2 28), .ref (p2 29), .ref (p2 30), .ref (p2 54), .null, .int 1, .int 1, .int 999, .ref (p2 61), .ref (p2 62), .ref (p2 63), .ref (p2 60)])), ((p2 0), .inl (cI, 1600, .inl (upd (upd (upd (upd (upd (upd (upd (upd (upd (upd (upd (upd (upd (upd (upd (fun _ => 0) 0 p3) 1 p4) 2 p5) 3 p6) 4 p7) 5 p8) 6 p9) 7 p10) 8 p11) 9 p12) 10 p13) 11 p14) 12 y_1) 13 y_2) 14 y_3)))]) hx hb hK hP hD hS 1 0 14 rfl rfl rfl (Nat.le_of_ble_eq_true rfl) (Nat.le_of_ble_eq_true rfl) rfl rfl dX6_feedNumber_34 (fun H locs hP hD hS => ?_)
  refine lv_aload_n hx hb dX6_feedNumber_35 rfl (lv_at hl 1 rfl) ?_
  refine lv_dup hx hb dX6_feedNumber_36 rfl ?_
  refine k_get (D := (dC, dI)) (ci := 6) (v := .int 14) (C := RX6) (T := TX6) (N := 17) hx hb hts hinX6 hown hK hP 0 rfl rfl 1 (by decide) w_0 rfl rfl dX6_feedNumber_37 ?_
  refine lv_iconst (v := 1) hx hb dX6_feedNumber_40 (by decide +kernel) ?_
  refine lv_iadd hx hb dX6_feedNumber_41 ?_
  refine k_int (v := 15) (by decide +kernel) ?_
  refine k_put (D := (dC, dI)) (ci := 6) (v := .int 15) (C := RX6) (T := TX6) (N := 17) (ws' := [(p0, .inr (6, [.ref (p2 0), .int 15, .ref (p2 1), .ref (p2 14), .ref (p2 27), .ref (p2 28), .ref (p2 29), .ref (p2 30), .ref (p2 54), .null, .int 1, .int 1, .int 999, .ref (p2 61), .ref (p2 62), .ref (p2 63), .ref (p2 60)])), ((p2 0), .inl (cI, 1600, .inl (upd (upd (upd (upd (upd (upd (upd (upd (upd (upd (upd (upd (upd (upd (upd (fun _ => 0) 0 p3) 1 p4) 2 p5) 3 p6) 4 p7) 5 p8) 6 p9) 7 p10) 8 p11) 9 p12) 10 p13) 11 p14) 12 y_1) 13 y_2) 14 y_3)))]) hx hb hts hinX6 tyX6 tyX6_ok nmX6 hown hK hP hD hS 0 rfl rfl 1 (by decide) w_0 rfl rfl rfl rfl (Nat.le_of_ble_eq_true rfl) rfl dX6_feedNumber_42 (fun H locs hP hD hS => ?_)
  refine lv_iinc (v := 0) (lv' := [(2, .int 0), (0, .ref p0), (1, .int p1)]) hx hb dX6_feedNumber_45 hl (k := 0) rfl (by decide +kernel) (by decide) rfl (fun ls hl => ?_)
  refine lv_goto (tgt := 3) hx hb dX6_feedNumber_48 (by decide) ?_
  refine lv_iload_n hx hb dX6_feedNumber_3 rfl (lv_at hl 0 rfl) ?_
  refine lv_if_lt (tgt := 51) hx hb dX6_feedNumber_4 (by decide) (fun q9 => absurd q9 (by decide +kernel)) (fun _ => ?_)
  refine lv_aload_n hx hb dX6_feedNumber_7 rfl (lv_at hl 1 rfl) ?_
  refine k_get (D := (dC, dI)) (ci := 6) (v := .int 15) (C := RX6) (T := TX6) (N := 17) hx hb hts hinX6 hown hK hP 0 rfl rfl 1 (by decide) w_0 rfl rfl dX6_feedNumber_8 ?_
  refine lv_aload_n hx hb dX6_feedNumber_11 rfl (lv_at hl 1 rfl) ?_
  refine k_get (D := (dC, dI)) (ci := 6) (v := .ref (p2 0)) (C := RX6) (T := TX6) (N := 17) hx hb hts hinX6 hown hK hP 0 rfl rfl 0 (by decide) w_1 rfl rfl dX6_feedNumber_12 ?_
  refine va_alen (v := 1600) hx hb hK hP 1 0 rfl rfl rfl dX6_feedNumber_15 ?_
  refine lv_icmp_ge (tgt := 45) hx hb dX6_feedNumber_16 (by decide) (fun q9 => absurd q9 (by decide +kernel)) (fun _ => ?_)
  refine lv_aload_n hx hb dX6_feedNumber_19 rfl (lv_at hl 1 rfl) ?_
  refine k_get (D := (dC, dI)) (ci := 6) (v := .ref (p2 0)) (C := RX6) (T := TX6) (N := 17) hx hb hts hinX6 hown hK hP 0 rfl rfl 0 (by decide) w_1 rfl rfl dX6_feedNumber_20 ?_
  refine lv_aload_n hx hb dX6_feedNumber_23 rfl (lv_at hl 1 rfl) ?_
  refine k_get (D := (dC, dI)) (ci := 6) (v := .int 15) (C := RX6) (T := TX6) (N := 17) hx hb hts hinX6 hown hK hP 0 rfl rfl 1 (by decide) w_0 rfl rfl dX6_feedNumber_24 ?_
  refine lv_iload_n hx hb dX6_feedNumber_27 rfl (lv_at hl 2 rfl) ?_
  refine lv_iload_n hx hb dX6_feedNumber_28 rfl (lv_at hl 0 rfl) ?_
  refine lv_iushr (v := (p1.toUInt32 >>> ((0 : Int32).toUInt32 &&& Int32.toUInt32 31)).toInt32) hx hb dX6_feedNumber_29 rfl ?_
  refine lv_sipush (v := 255) hx hb dX6_feedNumber_30 (by decide +kernel) ?_
  refine lv_iand hx hb dX6_feedNumber_33 ?_
  refine lv_topi (fun y_4 ey_4 => ?_)
  refine k_iast (g := (upd (upd (upd (upd (upd (upd (upd (upd (upd (upd (upd (upd (upd (upd (upd (upd (fun _ => 0) 0 p3) 1 p4) 2 p5) 3 p6) 4 p7) 5 p8) 6 p9) 7 p10) 8 p11) 9 p12) 10 p13) 11 p14) 12 y_1) 13 y_2) 14 y_3) 15 y_4)) (ws' := [(p0, .inr (6, [.ref (p2 0), .int 15, .ref (p2 1), .ref (p2 14), .ref (p2 27), .ref (p2 28), .ref (p2 29), .ref (p2 30), .ref (p2 54), .null, .int 1, .int 1, .int 999, .ref (p2 61), .ref (p2 62), .ref (p2 63), .ref (p2 60)])), ((p2 0), .inl (cI, 1600, .inl (upd (upd (upd (upd (upd (upd (upd (upd (upd (upd (upd (upd (upd (upd (upd (upd (fun _ => 0) 0 p3) 1 p4) 2 p5) 3 p6) 4 p7) 5 p8) 6 p9) 7 p10) 8 p11) 9 p12) 10 p13) 11 p14) 12 y_1) 13 y_2) 14 y_3) 15 y_4)))]) hx hb hK hP hD hS 1 0 15 rfl rfl rfl (Nat.le_of_ble_eq_true rfl) (Nat.le_of_ble_eq_true rfl) rfl rfl dX6_feedNumber_34 (fun H locs hP hD hS => ?_)
  refine lv_aload_n hx hb dX6_feedNumber_35 rfl (lv_at hl 1 rfl) ?_
  refine lv_dup hx hb dX6_feedNumber_36 rfl ?_
  refine k_get (D := (dC, dI)) (ci := 6) (v := .int 15) (C := RX6) (T := TX6) (N := 17) hx hb hts hinX6 hown hK hP 0 rfl rfl 1 (by decide) w_0 rfl rfl dX6_feedNumber_37 ?_
  refine lv_iconst (v := 1) hx hb dX6_feedNumber_40 (by decide +kernel) ?_
  refine lv_iadd hx hb dX6_feedNumber_41 ?_
  refine k_int (v := 16) (by decide +kernel) ?_
  refine k_put (D := (dC, dI)) (ci := 6) (v := .int 16) (C := RX6) (T := TX6) (N := 17) (ws' := [(p0, .inr (6, [.ref (p2 0), .int 16, .ref (p2 1), .ref (p2 14), .ref (p2 27), .ref (p2 28), .ref (p2 29), .ref (p2 30), .ref (p2 54), .null, .int 1, .int 1, .int 999, .ref (p2 61), .ref (p2 62), .ref (p2 63), .ref (p2 60)])), ((p2 0), .inl (cI, 1600, .inl (upd (upd (upd (upd (upd (upd (upd (upd (upd (upd (upd (upd (upd (upd (upd (upd (fun _ => 0) 0 p3) 1 p4) 2 p5) 3 p6) 4 p7) 5 p8) 6 p9) 7 p10) 8 p11) 9 p12) 10 p13) 11 p14) 12 y_1) 13 y_2) 14 y_3) 15 y_4)))]) hx hb hts hinX6 tyX6 tyX6_ok nmX6 hown hK hP hD hS 0 rfl rfl 1 (by decide) w_0 rfl rfl rfl rfl (Nat.le_of_ble_eq_true rfl) rfl dX6_feedNumber_42 (fun H locs hP hD hS => ?_)
  refine lv_iinc (v := (-8)) (lv' := [(2, .int (-8)), (0, .ref p0), (1, .int p1)]) hx hb dX6_feedNumber_45 hl (k := 0) rfl (by decide +kernel) (by decide) rfl (fun ls hl => ?_)
  refine lv_goto (tgt := 3) hx hb dX6_feedNumber_48 (by decide) ?_
  refine lv_iload_n hx hb dX6_feedNumber_3 rfl (lv_at hl 0 rfl) ?_
  refine lv_if_lt (tgt := 51) hx hb dX6_feedNumber_4 (by decide) (fun _ => ?_) (fun q9 => absurd q9 (by decide +kernel))
  subst ey_4
  subst ey_3
  subst ey_2
  subst ey_1
  exact k_rv B hP hD hS dX6_feedNumber_51 () [0, 1] rfl rfl (Nat.le_of_ble_eq_true rfl) (Nat.le_of_ble_eq_true rfl) trivial
set_option maxHeartbeats 4000000 in
set_option maxRecDepth 100000 in
theorem c_X6_feedNumber_v4 (l : Launch) (dC : Nat → ClassId) (dI : Nat → Nat → Nat) (cI cJ cZ cM : ClassId) (p0 : Nat) (p1 : Int32) (p2 : Nat → Nat) (p3 : Int32) (p4 : Int32) (p5 : Int32) (p6 : Int32) (p7 : Int32) (p8 : Int32) (p9 : Int32) (p10 : Int32) (p11 : Int32) (p12 : Int32) (p13 : Int32) (p14 : Int32) (p15 : Int32) (p16 : Int32) (p17 : Int32) (p18 : Int32)   : k_Mv l yX6_feedNumber wsX6_feedNumber ({ frames := 1, cells := 0, slots := 0, locals := 40 }) (dC, dI) vwCl (tyy cI cJ cZ cM) [(p0, .inr (6, [.ref (p2 0), .int 16, .ref (p2 1), .ref (p2 14), .ref (p2 27), .ref (p2 28), .ref (p2 29), .ref (p2 30), .ref (p2 54), .null, .int 1, .int 1, .int 999, .ref (p2 61), .ref (p2 62), .ref (p2 63), .ref (p2 60)])), ((p2 0), .inl (cI, 1600, .inl (upd (upd (upd (upd (upd (upd (upd (upd (upd (upd (upd (upd (upd (upd (upd (upd (fun _ => 0) 0 p3) 1 p4) 2 p5) 3 p6) 4 p7) 5 p8) 6 p9) 7 p10) 8 p11) 9 p12) 10 p13) 11 p14) 12 p15) 13 p16) 14 p17) 15 p18)))] [.ref p0, .int p1] 0 0 (fun (u9 : Unit) => [(p0, .inr (6, [.ref (p2 0), .int 20, .ref (p2 1), .ref (p2 14), .ref (p2 27), .ref (p2 28), .ref (p2 29), .ref (p2 30), .ref (p2 54), .null, .int 1, .int 1, .int 999, .ref (p2 61), .ref (p2 62), .ref (p2 63), .ref (p2 60)])), ((p2 0), .inl (cI, 1600, .inl (upd (upd (upd (upd (upd (upd (upd (upd (upd (upd (upd (upd (upd (upd (upd (upd (upd (upd (upd (upd (fun _ => 0) 0 p3) 1 p4) 2 p5) 3 p6) 4 p7) 5 p8) 6 p9) 7 p10) 8 p11) 9 p12) 10 p13) 11 p14) 12 p15) 13 p16) 14 p17) 15 p18) 16 (((p1.toUInt32 >>> ((24 : Int32).toUInt32 &&& Int32.toUInt32 31)).toInt32) &&& 255)) 17 (((p1.toUInt32 >>> ((16 : Int32).toUInt32 &&& Int32.toUInt32 31)).toInt32) &&& 255)) 18 (((p1.toUInt32 >>> ((8 : Int32).toUInt32 &&& Int32.toUInt32 31)).toInt32) &&& 255)) 19 (((p1.toUInt32 >>> ((0 : Int32).toUInt32 &&& Int32.toUInt32 31)).toInt32) &&& 255))))]) (fun (u9 : Unit) => True) := by
  refine fun sz => k_enter (cc := cX6_feedNumber) (maxL := 3) (ret := none) (Qc := fun A => va_Qv (fun (u9 : Unit) => True) (fun u => k_B (dC, dI) vwCl (tyy cI cJ cZ cM) A ((fun (u9 : Unit) => [(p0, .inr (6, [.ref (p2 0), .int 20, .ref (p2 1), .ref (p2 14), .ref (p2 27), .ref (p2 28), .ref (p2 29), .ref (p2 30), .ref (p2 54), .null, .int 1, .int 1, .int 999, .ref (p2 61), .ref (p2 62), .ref (p2 63), .ref (p2 60)])), ((p2 0), .inl (cI, 1600, .inl (upd (upd (upd (upd (upd (upd (upd (upd (upd (upd (upd (upd (upd (upd (upd (upd (upd (upd (upd (upd (fun _ => 0) 0 p3) 1 p4) 2 p5) 3 p6) 4 p7) 5 p8) 6 p9) 7 p10) 8 p11) 9 p12) 10 p13) 11 p14) 12 p15) 13 p16) 14 p17) 15 p18) 16 (((p1.toUInt32 >>> ((24 : Int32).toUInt32 &&& Int32.toUInt32 31)).toInt32) &&& 255)) 17 (((p1.toUInt32 >>> ((16 : Int32).toUInt32 &&& Int32.toUInt32 31)).toInt32) &&& 255)) 18 (((p1.toUInt32 >>> ((8 : Int32).toUInt32 &&& Int32.toUInt32 31)).toInt32) &&& 255)) 19 (((p1.toUInt32 >>> ((0 : Int32).toUInt32 &&& Int32.toUInt32 31)).toInt32) &&& 255))))]) u)) A) sz (by decide +kernel) rfl (Nat.le_of_ble_eq_true rfl) (fun p e s m args below meth c A ls H locs B hP hD hS hl => ?_)
  obtain ⟨hx, hb, hml, hown, hts, hr, hlk, hnm, hK, hA, hN, hC⟩ := id B
  have hown : s.vm.findClass RX6 = some m.cls := hown
  have hl : lv_has ls 3 [(0, .ref p0), (1, .int p1)] := hl
  have w_0 : (Cond.fieldLink RX6 92 "WishSea" "tapeLength" "I").before args s = true := hts _ (List.mem_of_getElem? (i := 1) rfl)
  have w_1 : (Cond.fieldLink RX6 9 "WishSea" "tape" "[I").before args s = true := hts _ (List.mem_of_getElem? (i := 2) rfl)
  have hinX6 : ∀ w ∈ u_ws RX6 TX6 17, w ∈ wsX6_feedNumber := fun _ h => List.mem_cons_of_mem _ (List.mem_append_right _ h)
  refine lv_bipush (v := 24) hx hb dX6_feedNumber_0 (by decide +kernel) ?_
  refine lv_istore_n (lv' := [(2, .int 24), (0, .ref p0), (1, .int p1)]) hx hb dX6_feedNumber_2 rfl hl (by decide) rfl (fun ls hl => ?_)
  refine lv_iload_n hx hb dX6_feedNumber_3 rfl (lv_at hl 0 rfl) ?_
  refine lv_if_lt (tgt := 51) hx hb dX6_feedNumber_4 (by decide) (fun q9 => absurd q9 (by decide +kernel)) (fun _ => ?_)
  refine lv_aload_n hx hb dX6_feedNumber_7 rfl (lv_at hl 1 rfl) ?_
  refine k_get (D := (dC, dI)) (ci := 6) (v := .int 16) (C := RX6) (T := TX6) (N := 17) hx hb hts hinX6 hown hK hP 0 rfl rfl 1 (by decide) w_0 rfl rfl dX6_feedNumber_8 ?_
  refine lv_aload_n hx hb dX6_feedNumber_11 rfl (lv_at hl 1 rfl) ?_
  refine k_get (D := (dC, dI)) (ci := 6) (v := .ref (p2 0)) (C := RX6) (T := TX6) (N := 17) hx hb hts hinX6 hown hK hP 0 rfl rfl 0 (by decide) w_1 rfl rfl dX6_feedNumber_12 ?_
  refine va_alen (v := 1600) hx hb hK hP 1 0 rfl rfl rfl dX6_feedNumber_15 ?_
  refine lv_icmp_ge (tgt := 45) hx hb dX6_feedNumber_16 (by decide) (fun q9 => absurd q9 (by decide +kernel)) (fun _ => ?_)
  refine lv_aload_n hx hb dX6_feedNumber_19 rfl (lv_at hl 1 rfl) ?_
  refine k_get (D := (dC, dI)) (ci := 6) (v := .ref (p2 0)) (C := RX6) (T := TX6) (N := 17) hx hb hts hinX6 hown hK hP 0 rfl rfl 0 (by decide) w_1 rfl rfl dX6_feedNumber_20 ?_
  refine lv_aload_n hx hb dX6_feedNumber_23 rfl (lv_at hl 1 rfl) ?_
  refine k_get (D := (dC, dI)) (ci := 6) (v := .int 16) (C := RX6) (T := TX6) (N := 17) hx hb hts hinX6 hown hK hP 0 rfl rfl 1 (by decide) w_0 rfl rfl dX6_feedNumber_24 ?_
  refine lv_iload_n hx hb dX6_feedNumber_27 rfl (lv_at hl 2 rfl) ?_
  refine lv_iload_n hx hb dX6_feedNumber_28 rfl (lv_at hl 0 rfl) ?_
  refine lv_iushr (v := (p1.toUInt32 >>> ((24 : Int32).toUInt32 &&& Int32.toUInt32 31)).toInt32) hx hb dX6_feedNumber_29 rfl ?_
  refine lv_sipush (v := 255) hx hb dX6_feedNumber_30 (by decide +kernel) ?_
  refine lv_iand hx hb dX6_feedNumber_33 ?_
  refine lv_topi (fun y_1 ey_1 => ?_)
  refine k_iast (g := (upd (upd (upd (upd (upd (upd (upd (upd (upd (upd (upd (upd (upd (upd (upd (upd (upd (fun _ => 0) 0 p3) 1 p4) 2 p5) 3 p6) 4 p7) 5 p8) 6 p9) 7 p10) 8 p11) 9 p12) 10 p13) 11 p14) 12 p15) 13 p16) 14 p17) 15 p18) 16 y_1)) (ws' := [(p0, .inr (6, [.ref (p2 0), .int 16, .ref (p2 1), .ref (p2 14), .ref (p2 27), .ref (p2 28), .ref (p2 29), .ref (p2 30), .ref (p2 54), .null, .int 1, .int 1, .int 999, .ref (p2 61), .ref (p2 62), .ref (p2 63), .ref (p2 60)])), ((p2 0), .inl (cI, 1600, .inl (upd (upd (upd (upd (upd (upd (upd (upd (upd (upd (upd (upd (upd (upd (upd (upd (upd (fun _ => 0) 0 p3) 1 p4) 2 p5) 3 p6) 4 p7) 5 p8) 6 p9) 7 p10) 8 p11) 9 p12) 10 p13) 11 p14) 12 p15) 13 p16) 14 p17) 15 p18) 16 y_1)))]) hx hb hK hP hD hS 1 0 16 rfl rfl rfl (Nat.le_of_ble_eq_true rfl) (Nat.le_of_ble_eq_true rfl) rfl rfl dX6_feedNumber_34 (fun H locs hP hD hS => ?_)
  refine lv_aload_n hx hb dX6_feedNumber_35 rfl (lv_at hl 1 rfl) ?_
  refine lv_dup hx hb dX6_feedNumber_36 rfl ?_
  refine k_get (D := (dC, dI)) (ci := 6) (v := .int 16) (C := RX6) (T := TX6) (N := 17) hx hb hts hinX6 hown hK hP 0 rfl rfl 1 (by decide) w_0 rfl rfl dX6_feedNumber_37 ?_
  refine lv_iconst (v := 1) hx hb dX6_feedNumber_40 (by decide +kernel) ?_
  refine lv_iadd hx hb dX6_feedNumber_41 ?_
  refine k_int (v := 17) (by decide +kernel) ?_
  refine k_put (D := (dC, dI)) (ci := 6) (v := .int 17) (C := RX6) (T := TX6) (N := 17) (ws' := [(p0, .inr (6, [.ref (p2 0), .int 17, .ref (p2 1), .ref (p2 14), .ref (p2 27), .ref (p2 28), .ref (p2 29), .ref (p2 30), .ref (p2 54), .null, .int 1, .int 1, .int 999, .ref (p2 61), .ref (p2 62), .ref (p2 63), .ref (p2 60)])), ((p2 0), .inl (cI, 1600, .inl (upd (upd (upd (upd (upd (upd (upd (upd (upd (upd (upd (upd (upd (upd (upd (upd (upd (fun _ => 0) 0 p3) 1 p4) 2 p5) 3 p6) 4 p7) 5 p8) 6 p9) 7 p10) 8 p11) 9 p12) 10 p13) 11 p14) 12 p15) 13 p16) 14 p17) 15 p18) 16 y_1)))]) hx hb hts hinX6 tyX6 tyX6_ok nmX6 hown hK hP hD hS 0 rfl rfl 1 (by decide) w_0 rfl rfl rfl rfl (Nat.le_of_ble_eq_true rfl) rfl dX6_feedNumber_42 (fun H locs hP hD hS => ?_)
  refine lv_iinc (v := 16) (lv' := [(2, .int 16), (0, .ref p0), (1, .int p1)]) hx hb dX6_feedNumber_45 hl (k := 0) rfl (by decide +kernel) (by decide) rfl (fun ls hl => ?_)
  refine lv_goto (tgt := 3) hx hb dX6_feedNumber_48 (by decide) ?_
  refine lv_iload_n hx hb dX6_feedNumber_3 rfl (lv_at hl 0 rfl) ?_
  refine lv_if_lt (tgt := 51) hx hb dX6_feedNumber_4 (by decide) (fun q9 => absurd q9 (by decide +kernel)) (fun _ => ?_)
  refine lv_aload_n hx hb dX6_feedNumber_7 rfl (lv_at hl 1 rfl) ?_
  refine k_get (D := (dC, dI)) (ci := 6) (v := .int 17) (C := RX6) (T := TX6) (N := 17) hx hb hts hinX6 hown hK hP 0 rfl rfl 1 (by decide) w_0 rfl rfl dX6_feedNumber_8 ?_
  refine lv_aload_n hx hb dX6_feedNumber_11 rfl (lv_at hl 1 rfl) ?_
  refine k_get (D := (dC, dI)) (ci := 6) (v := .ref (p2 0)) (C := RX6) (T := TX6) (N := 17) hx hb hts hinX6 hown hK hP 0 rfl rfl 0 (by decide) w_1 rfl rfl dX6_feedNumber_12 ?_
  refine va_alen (v := 1600) hx hb hK hP 1 0 rfl rfl rfl dX6_feedNumber_15 ?_
  refine lv_icmp_ge (tgt := 45) hx hb dX6_feedNumber_16 (by decide) (fun q9 => absurd q9 (by decide +kernel)) (fun _ => ?_)
  refine lv_aload_n hx hb dX6_feedNumber_19 rfl (lv_at hl 1 rfl) ?_
  refine k_get (D := (dC, dI)) (ci := 6) (v := .ref (p2 0)) (C := RX6) (T := TX6) (N := 17) hx hb hts hinX6 hown hK hP 0 rfl rfl 0 (by decide) w_1 rfl rfl dX6_feedNumber_20 ?_
  refine lv_aload_n hx hb dX6_feedNumber_23 rfl (lv_at hl 1 rfl) ?_
  refine k_get (D := (dC, dI)) (ci := 6) (v := .int 17) (C := RX6) (T := TX6) (N := 17) hx hb hts hinX6 hown hK hP 0 rfl rfl 1 (by decide) w_0 rfl rfl dX6_feedNumber_24 ?_
  refine lv_iload_n hx hb dX6_feedNumber_27 rfl (lv_at hl 2 rfl) ?_
  refine lv_iload_n hx hb dX6_feedNumber_28 rfl (lv_at hl 0 rfl) ?_
  refine lv_iushr (v := (p1.toUInt32 >>> ((16 : Int32).toUInt32 &&& Int32.toUInt32 31)).toInt32) hx hb dX6_feedNumber_29 rfl ?_
  refine lv_sipush (v := 255) hx hb dX6_feedNumber_30 (by decide +kernel) ?_
  refine lv_iand hx hb dX6_feedNumber_33 ?_
  refine lv_topi (fun y_2 ey_2 => ?_)
  refine k_iast (g := (upd (upd (upd (upd (upd (upd (upd (upd (upd (upd (upd (upd (upd (upd (upd (upd (upd (upd (fun _ => 0) 0 p3) 1 p4) 2 p5) 3 p6) 4 p7) 5 p8) 6 p9) 7 p10) 8 p11) 9 p12) 10 p13) 11 p14) 12 p15) 13 p16) 14 p17) 15 p18) 16 y_1) 17 y_2)) (ws' := [(p0, .inr (6, [.ref (p2 0), .int 17, .ref (p2 1), .ref (p2 14), .ref (p2 27), .ref (p2 28), .ref (p2 29), .ref (p2 30), .ref (p2 54), .null, .int 1, .int 1, .int 999, .ref (p2 61), .ref (p2 62), .ref (p2 63), .ref (p2 60)])), ((p2 0), .inl (cI, 1600, .inl (upd (upd (upd (upd (upd (upd (upd (upd (upd (upd (upd (upd (upd (upd (upd (upd (upd (upd (fun _ => 0) 0 p3) 1 p4) 2 p5) 3 p6) 4 p7) 5 p8) 6 p9) 7 p10) 8 p11) 9 p12) 10 p13) 11 p14) 12 p15) 13 p16) 14 p17) 15 p18) 16 y_1) 17 y_2)))]) hx hb hK hP hD hS 1 0 17 rfl rfl rfl (Nat.le_of_ble_eq_true rfl) (Nat.le_of_ble_eq_true rfl) rfl rfl dX6_feedNumber_34 (fun H locs hP hD hS => ?_)
  refine lv_aload_n hx hb dX6_feedNumber_35 rfl (lv_at hl 1 rfl) ?_
  refine lv_dup hx hb dX6_feedNumber_36 rfl ?_
  refine k_get (D := (dC, dI)) (ci := 6) (v := .int 17) (C := RX6) (T := TX6) (N := 17) hx hb hts hinX6 hown hK hP 0 rfl rfl 1 (by decide) w_0 rfl rfl dX6_feedNumber_37 ?_
  refine lv_iconst (v := 1) hx hb dX6_feedNumber_40 (by decide +kernel) ?_
  refine lv_iadd hx hb dX6_feedNumber_41 ?_
  refine k_int (v := 18) (by decide +kernel) ?_
  refine k_put (D := (dC, dI)) (ci := 6) (v := .int 18) (C := RX6) (T := TX6) (N := 17) (ws' := [(p0, .inr (6, [.ref (p2 0), .int 18, .ref (p2 1), .ref (p2 14), .ref (p2 27), .ref (p2 28), .ref (p2 29), .ref (p2 30), .ref (p2 54), .null, .int 1, .int 1, .int 999, .ref (p2 61), .ref (p2 62), .ref (p2 63), .ref (p2 60)])), ((p2 0), .inl (cI, 1600, .inl (upd (upd (upd (upd (upd (upd (upd (upd (upd (upd (upd (upd (upd (upd (upd (upd (upd (upd (fun _ => 0) 0 p3) 1 p4) 2 p5) 3 p6) 4 p7) 5 p8) 6 p9) 7 p10) 8 p11) 9 p12) 10 p13) 11 p14) 12 p15) 13 p16) 14 p17) 15 p18) 16 y_1) 17 y_2)))]) hx hb hts hinX6 tyX6 tyX6_ok nmX6 hown hK hP hD hS 0 rfl rfl 1 (by decide) w_0 rfl rfl rfl rfl (Nat.le_of_ble_eq_true rfl) rfl dX6_feedNumber_42 (fun H locs hP hD hS => ?_)
  refine lv_iinc (v := 8) (lv' := [(2, .int 8), (0, .ref p0), (1, .int p1)]) hx hb dX6_feedNumber_45 hl (k := 0) rfl (by decide +kernel) (by decide) rfl (fun ls hl => ?_)
  refine lv_goto (tgt := 3) hx hb dX6_feedNumber_48 (by decide) ?_
  refine lv_iload_n hx hb dX6_feedNumber_3 rfl (lv_at hl 0 rfl) ?_
  refine lv_if_lt (tgt := 51) hx hb dX6_feedNumber_4 (by decide) (fun q9 => absurd q9 (by decide +kernel)) (fun _ => ?_)
  refine lv_aload_n hx hb dX6_feedNumber_7 rfl (lv_at hl 1 rfl) ?_
  refine k_get (D := (dC, dI)) (ci := 6) (v := .int 18) (C := RX6) (T := TX6) (N := 17) hx hb hts hinX6 hown hK hP 0 rfl rfl 1 (by decide) w_0 rfl rfl dX6_feedNumber_8 ?_
  refine lv_aload_n hx hb dX6_feedNumber_11 rfl (lv_at hl 1 rfl) ?_
  refine k_get (D := (dC, dI)) (ci := 6) (v := .ref (p2 0)) (C := RX6) (T := TX6) (N := 17) hx hb hts hinX6 hown hK hP 0 rfl rfl 0 (by decide) w_1 rfl rfl dX6_feedNumber_12 ?_
  refine va_alen (v := 1600) hx hb hK hP 1 0 rfl rfl rfl dX6_feedNumber_15 ?_
  refine lv_icmp_ge (tgt := 45) hx hb dX6_feedNumber_16 (by decide) (fun q9 => absurd q9 (by decide +kernel)) (fun _ => ?_)
  refine lv_aload_n hx hb dX6_feedNumber_19 rfl (lv_at hl 1 rfl) ?_
  refine k_get (D := (dC, dI)) (ci := 6) (v := .ref (p2 0)) (C := RX6) (T := TX6) (N := 17) hx hb hts hinX6 hown hK hP 0 rfl rfl 0 (by decide) w_1 rfl rfl dX6_feedNumber_20 ?_
  refine lv_aload_n hx hb dX6_feedNumber_23 rfl (lv_at hl 1 rfl) ?_
  refine k_get (D := (dC, dI)) (ci := 6) (v := .int 18) (C := RX6) (T := TX6) (N := 17) hx hb hts hinX6 hown hK hP 0 rfl rfl 1 (by decide) w_0 rfl rfl dX6_feedNumber_24 ?_
  refine lv_iload_n hx hb dX6_feedNumber_27 rfl (lv_at hl 2 rfl) ?_
  refine lv_iload_n hx hb dX6_feedNumber_28 rfl (lv_at hl 0 rfl) ?_
  refine lv_iushr (v := (p1.toUInt32 >>> ((8 : Int32).toUInt32 &&& Int32.toUInt32 31)).toInt32) hx hb dX6_feedNumber_29 rfl ?_
  refine lv_sipush (v := 255) hx hb dX6_feedNumber_30 (by decide +kernel) ?_
  refine lv_iand hx hb dX6_feedNumber_33 ?_
  refine lv_topi (fun y_3 ey_3 => ?_)
  refine k_iast (g := (upd (upd (upd (upd (upd (upd (upd (upd (upd (upd (upd (upd (upd (upd (upd (upd (upd (upd (upd (fun _ => 0) 0 p3) 1 p4) 2 p5) 3 p6) 4 p7) 5 p8) 6 p9) 7 p10) 8 p11) 9 p12) 10 p13) 11 p14) 12 p15) 13 p16) 14 p17) 15 p18) 16 y_1) 17 y_2) 18 y_3)) (ws' := [(p0, .inr (6, [.ref (p2 0), .int 18, .ref (p2 1), .ref (p2 14), .ref (p2 27), .ref (p2 28), .ref (p2 29), .ref (p2 30), .ref (p2 54), .null, .int 1, .int 1, .int 999, .ref (p2 61), .ref (p2 62), .ref (p2 63), .ref (p2 60)])), ((p2 0), .inl (cI, 1600, .inl (upd (upd (upd (upd (upd (upd (upd (upd (upd (upd (upd (upd (upd (upd (upd (upd (upd (upd (upd (fun _ => 0) 0 p3) 1 p4) 2 p5) 3 p6) 4 p7) 5 p8) 6 p9) 7 p10) 8 p11) 9 p12) 10 p13) 11 p14) 12 p15) 13 p16) 14 p17) 15 p18) 16 y_1) 17 y_2) 18 y_3)))]) hx hb hK hP hD hS 1 0 18 rfl rfl rfl (Nat.le_of_ble_eq_true rfl) (Nat.le_of_ble_eq_true rfl) rfl rfl dX6_feedNumber_34 (fun H locs hP hD hS => ?_)
  refine lv_aload_n hx hb dX6_feedNumber_35 rfl (lv_at hl 1 rfl) ?_
  refine lv_dup hx hb dX6_feedNumber_36 rfl ?_
  refine k_get (D := (dC, dI)) (ci := 6) (v := .int 18) (C := RX6) (T := TX6) (N := 17) hx hb hts hinX6 hown hK hP 0 rfl rfl 1 (by decide) w_0 rfl rfl dX6_feedNumber_37 ?_
  refine lv_iconst (v := 1) hx hb dX6_feedNumber_40 (by decide +kernel) ?_
  refine lv_iadd hx hb dX6_feedNumber_41 ?_
  refine k_int (v := 19) (by decide +kernel) ?_
  refine k_put (D := (dC, dI)) (ci := 6) (v := .int 19) (C := RX6) (T := TX6) (N := 17) (ws' := [(p0, .inr (6, [.ref (p2 0), .int 19, .ref (p2 1), .ref (p2 14), .ref (p2 27), .ref (p2 28), .ref (p2 29), .ref (p2 30), .ref (p2 54), .null, .int 1, .int 1, .int 999, .ref (p2 61), .ref (p2 62), .ref (p2 63), .ref (p2 60)])), ((p2 0), .inl (cI, 1600, .inl (upd (upd (upd (upd (upd (upd (upd (upd (upd (upd (upd (upd (upd (upd (upd (upd (upd (upd (upd (fun _ => 0) 0 p3) 1 p4) 2 p5) 3 p6) 4 p7) 5 p8) 6 p9) 7 p10) 8 p11) 9 p12) 10 p13) 11 p14) 12 p15) 13 p16) 14 p17) 15 p18) 16 y_1) 17 y_2) 18 y_3)))]) hx hb hts hinX6 tyX6 tyX6_ok nmX6 hown hK hP hD hS 0 rfl rfl 1 (by decide) w_0 rfl rfl rfl rfl (Nat.le_of_ble_eq_true rfl) rfl dX6_feedNumber_42 (fun H locs hP hD hS => ?_)
  refine lv_iinc (v := 0) (lv' := [(2, .int 0), (0, .ref p0), (1, .int p1)]) hx hb dX6_feedNumber_45 hl (k := 0) rfl (by decide +kernel) (by decide) rfl (fun ls hl => ?_)
  refine lv_goto (tgt := 3) hx hb dX6_feedNumber_48 (by decide) ?_
  refine lv_iload_n hx hb dX6_feedNumber_3 rfl (lv_at hl 0 rfl) ?_
  refine lv_if_lt (tgt := 51) hx hb dX6_feedNumber_4 (by decide) (fun q9 => absurd q9 (by decide +kernel)) (fun _ => ?_)
  refine lv_aload_n hx hb dX6_feedNumber_7 rfl (lv_at hl 1 rfl) ?_
  refine k_get (D := (dC, dI)) (ci := 6) (v := .int 19) (C := RX6) (T := TX6) (N := 17) hx hb hts hinX6 hown hK hP 0 rfl rfl 1 (by decide) w_0 rfl rfl dX6_feedNumber_8 ?_
  refine lv_aload_n hx hb dX6_feedNumber_11 rfl (lv_at hl 1 rfl) ?_
  refine k_get (D := (dC, dI)) (ci := 6) (v := .ref (p2 0)) (C := RX6) (T := TX6) (N := 17) hx hb hts hinX6 hown hK hP 0 rfl rfl 0 (by decide) w_1 rfl rfl dX6_feedNumber_12 ?_
  refine va_alen (v := 1600) hx hb hK hP 1 0 rfl rfl rfl dX6_feedNumber_15 ?_
  refine lv_icmp_ge (tgt := 45) hx hb dX6_feedNumber_16 (by decide) (fun q9 => absurd q9 (by decide +kernel)) (fun _ => ?_)
  refine lv_aload_n hx hb dX6_feedNumber_19 rfl (lv_at hl 1 rfl) ?_
  refine k_get (D := (dC, dI)) (ci := 6) (v := .ref (p2 0)) (C := RX6) (T := TX6) (N := 17) hx hb hts hinX6 hown hK hP 0 rfl rfl 0 (by decide) w_1 rfl rfl dX6_feedNumber_20 ?_
  refine lv_aload_n hx hb dX6_feedNumber_23 rfl (lv_at hl 1 rfl) ?_
  refine k_get (D := (dC, dI)) (ci := 6) (v := .int 19) (C := RX6) (T := TX6) (N := 17) hx hb hts hinX6 hown hK hP 0 rfl rfl 1 (by decide) w_0 rfl rfl dX6_feedNumber_24 ?_
  refine lv_iload_n hx hb dX6_feedNumber_27 rfl (lv_at hl 2 rfl) ?_
  refine lv_iload_n hx hb dX6_feedNumber_28 rfl (lv_at hl 0 rfl) ?_
  refine lv_iushr (v := (p1.toUInt32 >>> ((0 : Int32).toUInt32 &&& Int32.toUInt32 31)).toInt32) hx hb dX6_feedNumber_29 rfl ?_
  refine lv_sipush (v := 255) hx hb dX6_feedNumber_30 (by decide +kernel) ?_
  refine lv_iand hx hb dX6_feedNumber_33 ?_
  refine lv_topi (fun y_4 ey_4 => ?_)
  refine k_iast (g := (upd (upd (upd (upd (upd (upd (upd (upd (upd (upd (upd (upd (upd (upd (upd (upd (upd (upd (upd (upd (fun _ => 0) 0 p3) 1 p4) 2 p5) 3 p6) 4 p7) 5 p8) 6 p9) 7 p10) 8 p11) 9 p12) 10 p13) 11 p14) 12 p15) 13 p16) 14 p17) 15 p18) 16 y_1) 17 y_2) 18 y_3) 19 y_4)) (ws' := [(p0, .inr (6, [.ref (p2 0), .int 19, .ref (p2 1), .ref (p2 14), .ref (p2 27), .ref (p2 28), .ref (p2 29), .ref (p2 30), .ref (p2 54), .null, .int 1, .int 1, .int 999, .ref (p2 61), .ref (p2 62), .ref (p2 63), .ref (p2 60)])), ((p2 0), .inl (cI, 1600, .inl (upd (upd (upd (upd (upd (upd (upd (upd (upd (upd (upd (upd (upd (upd (upd (upd (upd (upd (upd (upd (fun _ => 0) 0 p3) 1 p4) 2 p5) 3 p6) 4 p7) 5 p8) 6 p9) 7 p10) 8 p11) 9 p12) 10 p13) 11 p14) 12 p15) 13 p16) 14 p17) 15 p18) 16 y_1) 17 y_2) 18 y_3) 19 y_4)))]) hx hb hK hP hD hS 1 0 19 rfl rfl rfl (Nat.le_of_ble_eq_true rfl) (Nat.le_of_ble_eq_true rfl) rfl rfl dX6_feedNumber_34 (fun H locs hP hD hS => ?_)
  refine lv_aload_n hx hb dX6_feedNumber_35 rfl (lv_at hl 1 rfl) ?_
  refine lv_dup hx hb dX6_feedNumber_36 rfl ?_
  refine k_get (D := (dC, dI)) (ci := 6) (v := .int 19) (C := RX6) (T := TX6) (N := 17) hx hb hts hinX6 hown hK hP 0 rfl rfl 1 (by decide) w_0 rfl rfl dX6_feedNumber_37 ?_
  refine lv_iconst (v := 1) hx hb dX6_feedNumber_40 (by decide +kernel) ?_
  refine lv_iadd hx hb dX6_feedNumber_41 ?_
  refine k_int (v := 20) (by decide +kernel) ?_
  refine k_put (D := (dC, dI)) (ci := 6) (v := .int 20) (C := RX6) (T := TX6) (N := 17) (ws' := [(p0, .inr (6, [.ref (p2 0), .int 20, .ref (p2 1), .ref (p2 14), .ref (p2 27), .ref (p2 28), .ref (p2 29), .ref (p2 30), .ref (p2 54), .null, .int 1, .int 1, .int 999, .ref (p2 61), .ref (p2 62), .ref (p2 63), .ref (p2 60)])), ((p2 0), .inl (cI, 1600, .inl (upd (upd (upd (upd (upd (upd (upd (upd (upd (upd (upd (upd (upd (upd (upd (upd (upd (upd (upd (upd (fun _ => 0) 0 p3) 1 p4) 2 p5) 3 p6) 4 p7) 5 p8) 6 p9) 7 p10) 8 p11) 9 p12) 10 p13) 11 p14) 12 p15) 13 p16) 14 p17) 15 p18) 16 y_1) 17 y_2) 18 y_3) 19 y_4)))]) hx hb hts hinX6 tyX6 tyX6_ok nmX6 hown hK hP hD hS 0 rfl rfl 1 (by decide) w_0 rfl rfl rfl rfl (Nat.le_of_ble_eq_true rfl) rfl dX6_feedNumber_42 (fun H locs hP hD hS => ?_)
  refine lv_iinc (v := (-8)) (lv' := [(2, .int (-8)), (0, .ref p0), (1, .int p1)]) hx hb dX6_feedNumber_45 hl (k := 0) rfl (by decide +kernel) (by decide) rfl (fun ls hl => ?_)
  refine lv_goto (tgt := 3) hx hb dX6_feedNumber_48 (by decide) ?_
  refine lv_iload_n hx hb dX6_feedNumber_3 rfl (lv_at hl 0 rfl) ?_
  refine lv_if_lt (tgt := 51) hx hb dX6_feedNumber_4 (by decide) (fun _ => ?_) (fun q9 => absurd q9 (by decide +kernel))
  subst ey_4
  subst ey_3
  subst ey_2
  subst ey_1
  exact k_rv B hP hD hS dX6_feedNumber_51 () [0, 1] rfl rfl (Nat.le_of_ble_eq_true rfl) (Nat.le_of_ble_eq_true rfl) trivial
set_option maxHeartbeats 4000000 in
set_option maxRecDepth 100000 in
theorem c_X6_feed_v0 (l : Launch) (dC : Nat → ClassId) (dI : Nat → Nat → Nat) (cI cJ cZ cM : ClassId) (p0 : Nat) (p1 : Int32) (p2 : Int32) (p3 : Int32) (p4 : Int32) (p5 : Int32) (p6 : Nat → Nat)   : k_Mi l yX6_feed wsX6_feed ({ frames := 2, cells := 0, slots := 0, locals := 62 }) (dC, dI) vwCl (tyy cI cJ cZ cM) [(p0, .inr (6, [.ref (p6 0), .int 0, .ref (p6 1), .ref (p6 14), .ref (p6 27), .ref (p6 28), .ref (p6 29), .ref (p6 30), .ref (p6 54), .null, .int 1, .int 1, .int 999, .ref (p6 61), .ref (p6 62), .ref (p6 63), .ref (p6 60)])), ((p6 0), .inl (cI, 1600, .inl (fun _ => 0)))] [.ref p0, .int p1, .int p2, .int p3, .int p4, .int p5] 0 0 (fun (u9 : Unit) => [(p0, .inr (6, [.ref (p6 0), .int 20, .ref (p6 1), .ref (p6 14), .ref (p6 27), .ref (p6 28), .ref (p6 29), .ref (p6 30), .ref (p6 54), .null, .int 1, .int 1, .int 999, .ref (p6 61), .ref (p6 62), .ref (p6 63), .ref (p6 60)])), ((p6 0), .inl (cI, 1600, .inl (upd (upd (upd (upd (upd (upd (upd (upd (upd (upd (upd (upd (upd (upd (upd (upd (upd (upd (upd (upd (fun _ => 0) 0 (((p1.toUInt32 >>> ((24 : Int32).toUInt32 &&& Int32.toUInt32 31)).toInt32) &&& 255)) 1 (((p1.toUInt32 >>> ((16 : Int32).toUInt32 &&& Int32.toUInt32 31)).toInt32) &&& 255)) 2 (((p1.toUInt32 >>> ((8 : Int32).toUInt32 &&& Int32.toUInt32 31)).toInt32) &&& 255)) 3 (((p1.toUInt32 >>> ((0 : Int32).toUInt32 &&& Int32.toUInt32 31)).toInt32) &&& 255)) 4 (((p2.toUInt32 >>> ((24 : Int32).toUInt32 &&& Int32.toUInt32 31)).toInt32) &&& 255)) 5 (((p2.toUInt32 >>> ((16 : Int32).toUInt32 &&& Int32.toUInt32 31)).toInt32) &&& 255)) 6 (((p2.toUInt32 >>> ((8 : Int32).toUInt32 &&& Int32.toUInt32 31)).toInt32) &&& 255)) 7 (((p2.toUInt32 >>> ((0 : Int32).toUInt32 &&& Int32.toUInt32 31)).toInt32) &&& 255)) 8 (((p3.toUInt32 >>> ((24 : Int32).toUInt32 &&& Int32.toUInt32 31)).toInt32) &&& 255)) 9 (((p3.toUInt32 >>> ((16 : Int32).toUInt32 &&& Int32.toUInt32 31)).toInt32) &&& 255)) 10 (((p3.toUInt32 >>> ((8 : Int32).toUInt32 &&& Int32.toUInt32 31)).toInt32) &&& 255)) 11 (((p3.toUInt32 >>> ((0 : Int32).toUInt32 &&& Int32.toUInt32 31)).toInt32) &&& 255)) 12 (((p4.toUInt32 >>> ((24 : Int32).toUInt32 &&& Int32.toUInt32 31)).toInt32) &&& 255)) 13 (((p4.toUInt32 >>> ((16 : Int32).toUInt32 &&& Int32.toUInt32 31)).toInt32) &&& 255)) 14 (((p4.toUInt32 >>> ((8 : Int32).toUInt32 &&& Int32.toUInt32 31)).toInt32) &&& 255)) 15 (((p4.toUInt32 >>> ((0 : Int32).toUInt32 &&& Int32.toUInt32 31)).toInt32) &&& 255)) 16 (((p5.toUInt32 >>> ((24 : Int32).toUInt32 &&& Int32.toUInt32 31)).toInt32) &&& 255)) 17 (((p5.toUInt32 >>> ((16 : Int32).toUInt32 &&& Int32.toUInt32 31)).toInt32) &&& 255)) 18 (((p5.toUInt32 >>> ((8 : Int32).toUInt32 &&& Int32.toUInt32 31)).toInt32) &&& 255)) 19 (((p5.toUInt32 >>> ((0 : Int32).toUInt32 &&& Int32.toUInt32 31)).toInt32) &&& 255))))]) (fun (r9 : Int32) (u9 : Unit) => r9 = 20) := by
  refine fun sz => k_enter (cc := cX6_feed) (maxL := 6) (ret := some (.int)) (Qc := fun A => va_Qi (fun (r9 : Int32) (u9 : Unit) => r9 = 20) (fun u => k_B (dC, dI) vwCl (tyy cI cJ cZ cM) A ((fun (u9 : Unit) => [(p0, .inr (6, [.ref (p6 0), .int 20, .ref (p6 1), .ref (p6 14), .ref (p6 27), .ref (p6 28), .ref (p6 29), .ref (p6 30), .ref (p6 54), .null, .int 1, .int 1, .int 999, .ref (p6 61), .ref (p6 62), .ref (p6 63), .ref (p6 60)])), ((p6 0), .inl (cI, 1600, .inl (upd (upd (upd (upd (upd (upd (upd (upd (upd (upd (upd (upd (upd (upd (upd (upd (upd (upd (upd (upd (fun _ => 0) 0 (((p1.toUInt32 >>> ((24 : Int32).toUInt32 &&& Int32.toUInt32 31)).toInt32) &&& 255)) 1 (((p1.toUInt32 >>> ((16 : Int32).toUInt32 &&& Int32.toUInt32 31)).toInt32) &&& 255)) 2 (((p1.toUInt32 >>> ((8 : Int32).toUInt32 &&& Int32.toUInt32 31)).toInt32) &&& 255)) 3 (((p1.toUInt32 >>> ((0 : Int32).toUInt32 &&& Int32.toUInt32 31)).toInt32) &&& 255)) 4 (((p2.toUInt32 >>> ((24 : Int32).toUInt32 &&& Int32.toUInt32 31)).toInt32) &&& 255)) 5 (((p2.toUInt32 >>> ((16 : Int32).toUInt32 &&& Int32.toUInt32 31)).toInt32) &&& 255)) 6 (((p2.toUInt32 >>> ((8 : Int32).toUInt32 &&& Int32.toUInt32 31)).toInt32) &&& 255)) 7 (((p2.toUInt32 >>> ((0 : Int32).toUInt32 &&& Int32.toUInt32 31)).toInt32) &&& 255)) 8 (((p3.toUInt32 >>> ((24 : Int32).toUInt32 &&& Int32.toUInt32 31)).toInt32) &&& 255)) 9 (((p3.toUInt32 >>> ((16 : Int32).toUInt32 &&& Int32.toUInt32 31)).toInt32) &&& 255)) 10 (((p3.toUInt32 >>> ((8 : Int32).toUInt32 &&& Int32.toUInt32 31)).toInt32) &&& 255)) 11 (((p3.toUInt32 >>> ((0 : Int32).toUInt32 &&& Int32.toUInt32 31)).toInt32) &&& 255)) 12 (((p4.toUInt32 >>> ((24 : Int32).toUInt32 &&& Int32.toUInt32 31)).toInt32) &&& 255)) 13 (((p4.toUInt32 >>> ((16 : Int32).toUInt32 &&& Int32.toUInt32 31)).toInt32) &&& 255)) 14 (((p4.toUInt32 >>> ((8 : Int32).toUInt32 &&& Int32.toUInt32 31)).toInt32) &&& 255)) 15 (((p4.toUInt32 >>> ((0 : Int32).toUInt32 &&& Int32.toUInt32 31)).toInt32) &&& 255)) 16 (((p5.toUInt32 >>> ((24 : Int32).toUInt32 &&& Int32.toUInt32 31)).toInt32) &&& 255)) 17 (((p5.toUInt32 >>> ((16 : Int32).toUInt32 &&& Int32.toUInt32 31)).toInt32) &&& 255)) 18 (((p5.toUInt32 >>> ((8 : Int32).toUInt32 &&& Int32.toUInt32 31)).toInt32) &&& 255)) 19 (((p5.toUInt32 >>> ((0 : Int32).toUInt32 &&& Int32.toUInt32 31)).toInt32) &&& 255))))]) u)) A) sz (by decide +kernel) rfl (Nat.le_of_ble_eq_true rfl) (fun p e s m args below meth c A ls H locs B hP hD hS hl => ?_)
  obtain ⟨hx, hb, hml, hown, hts, hr, hlk, hnm, hK, hA, hN, hC⟩ := id B
  have hown : s.vm.findClass RX6 = some m.cls := hown
  have hl : lv_has ls 6 [(0, .ref p0), (1, .int p1), (2, .int p2), (3, .int p3), (4, .int p4), (5, .int p5)] := hl
  have w_0 : (Cond.fieldLink RX6 92 "WishSea" "tapeLength" "I").before args s = true := hts _ (List.mem_of_getElem? (i := 1) rfl)
  have w_1 : (Cond.fieldLink RX6 9 "WishSea" "tape" "[I").before args s = true := hts _ (List.mem_of_getElem? (i := 2) rfl)
  have hinX6 : ∀ w ∈ u_ws RX6 TX6 17, w ∈ wsX6_feed := fun _ h => List.mem_cons_of_mem _ (List.mem_append_right _ h)
  refine lv_aload_n hx hb dX6_feed_0 rfl (lv_at hl 0 rfl) ?_
  refine k_get (D := (dC, dI)) (ci := 6) (v := .int 0) (C := RX6) (T := TX6) (N := 17) hx hb hts hinX6 hown hK hP 0 rfl rfl 1 (by decide) w_0 rfl rfl dX6_feed_1 ?_
  refine lv_bipush (v := 20) hx hb dX6_feed_4 (by decide +kernel) ?_
  refine lv_iadd hx hb dX6_feed_6 ?_
  refine k_int (v := 20) (by decide +kernel) ?_
  refine lv_aload_n hx hb dX6_feed_7 rfl (lv_at hl 0 rfl) ?_
  refine k_get (D := (dC, dI)) (ci := 6) (v := .ref (p6 0)) (C := RX6) (T := TX6) (N := 17) hx hb hts hinX6 hown hK hP 0 rfl rfl 0 (by decide) w_1 rfl rfl dX6_feed_8 ?_
  refine va_alen (v := 1600) hx hb hK hP 1 0 rfl rfl rfl dX6_feed_11 ?_
  refine lv_icmp_le (tgt := 21) hx hb dX6_feed_12 (by decide) (fun _ => ?_) (fun q9 => absurd q9 (by decide +kernel))
  refine lv_aload_n hx hb dX6_feed_21 rfl (lv_at hl 0 rfl) ?_
  refine lv_iload_n hx hb dX6_feed_22 rfl (lv_at hl 1 rfl) ?_
  refine k_cv (wc := [(p0, .inr (6, [.ref (p6 0), .int 0, .ref (p6 1), .ref (p6 14), .ref (p6 27), .ref (p6 28), .ref (p6 29), .ref (p6 30), .ref (p6 54), .null, .int 1, .int 1, .int 999, .ref (p6 61), .ref (p6 62), .ref (p6 63), .ref (p6 60)])), ((p6 0), .inl (cI, 1600, .inl (fun _ => 0)))]) (wr := []) (fun hPc hDc hFc => va_runV (As := [.int p1]) (rest := []) ⟨hx, hb, hml, hown, hts⟩ (c_X6_feedNumber_v0 l dC dI cI cJ cZ cM p0 p1 p6 H.size) (cwV 1 hts gX6_feed_X6_feedNumber rfl rfl rfl (by decide +kernel) ⟨(Nat.le_of_ble_eq_true rfl), (Nat.le_of_ble_eq_true rfl)⟩) (k_pV hPc hDc hK hN hC hS hFc hP (q0 := 0) (ci := 6) rfl rfl) rfl rfl hl.1 rfl (lv_room (Nat.le_of_ble_eq_true rfl)) dX6_feed_23 ⟨(Nat.le_of_ble_eq_true rfl), (Nat.le_of_ble_eq_true rfl)⟩) hP hD hS hA [0, 1] [] rfl rfl rfl rfl (by decide) (fun _ => rfl) 0 0 rfl rfl (fun u_2 H locs hw hP hD hS => ?_)
  have hP : va_P (dC, dI) vwCl [(p0, .inr (6, [.ref (p6 0), .int 4, .ref (p6 1), .ref (p6 14), .ref (p6 27), .ref (p6 28), .ref (p6 29), .ref (p6 30), .ref (p6 54), .null, .int 1, .int 1, .int 999, .ref (p6 61), .ref (p6 62), .ref (p6 63), .ref (p6 60)])), ((p6 0), .inl (cI, 1600, .inl (upd (upd (upd (upd (fun _ => 0) 0 (((p1.toUInt32 >>> ((24 : Int32).toUInt32 &&& Int32.toUInt32 31)).toInt32) &&& 255)) 1 (((p1.toUInt32 >>> ((16 : Int32).toUInt32 &&& Int32.toUInt32 31)).toInt32) &&& 255)) 2 (((p1.toUInt32 >>> ((8 : Int32).toUInt32 &&& Int32.toUInt32 31)).toInt32) &&& 255)) 3 (((p1.toUInt32 >>> ((0 : Int32).toUInt32 &&& Int32.toUInt32 31)).toInt32) &&& 255))))] H := hP
  have hD : va_D A [(p0, .inr (6, [.ref (p6 0), .int 4, .ref (p6 1), .ref (p6 14), .ref (p6 27), .ref (p6 28), .ref (p6 29), .ref (p6 30), .ref (p6 54), .null, .int 1, .int 1, .int 999, .ref (p6 61), .ref (p6 62), .ref (p6 63), .ref (p6 60)])), ((p6 0), .inl (cI, 1600, .inl (upd (upd (upd (upd (fun _ => 0) 0 (((p1.toUInt32 >>> ((24 : Int32).toUInt32 &&& Int32.toUInt32 31)).toInt32) &&& 255)) 1 (((p1.toUInt32 >>> ((16 : Int32).toUInt32 &&& Int32.toUInt32 31)).toInt32) &&& 255)) 2 (((p1.toUInt32 >>> ((8 : Int32).toUInt32 &&& Int32.toUInt32 31)).toInt32) &&& 255)) 3 (((p1.toUInt32 >>> ((0 : Int32).toUInt32 &&& Int32.toUInt32 31)).toInt32) &&& 255))))] := hD
  generalize ey_3 : (((p1.toUInt32 >>> ((24 : Int32).toUInt32 &&& Int32.toUInt32 31)).toInt32) &&& 255) = y_3 at hP hD
  generalize ey_4 : (((p1.toUInt32 >>> ((16 : Int32).toUInt32 &&& Int32.toUInt32 31)).toInt32) &&& 255) = y_4 at hP hD
  generalize ey_5 : (((p1.toUInt32 >>> ((8 : Int32).toUInt32 &&& Int32.toUInt32 31)).toInt32) &&& 255) = y_5 at hP hD
  generalize ey_6 : (((p1.toUInt32 >>> ((0 : Int32).toUInt32 &&& Int32.toUInt32 31)).toInt32) &&& 255) = y_6 at hP hD
  refine lv_aload_n hx hb dX6_feed_26 rfl (lv_at hl 0 rfl) ?_
  refine lv_iload_n hx hb dX6_feed_27 rfl (lv_at hl 2 rfl) ?_
  refine k_cv (wc := [(p0, .inr (6, [.ref (p6 0), .int 4, .ref (p6 1), .ref (p6 14), .ref (p6 27), .ref (p6 28), .ref (p6 29), .ref (p6 30), .ref (p6 54), .null, .int 1, .int 1, .int 999, .ref (p6 61), .ref (p6 62), .ref (p6 63), .ref (p6 60)])), ((p6 0), .inl (cI, 1600, .inl (upd (upd (upd (upd (fun _ => 0) 0 y_3) 1 y_4) 2 y_5) 3 y_6)))]) (wr := []) (fun hPc hDc hFc => va_runV (As := [.int p2]) (rest := []) ⟨hx, hb, hml, hown, hts⟩ (c_X6_feedNumber_v1 l dC dI cI cJ cZ cM p0 p2 p6 y_3 y_4 y_5 y_6 H.size) (cwV 1 hts gX6_feed_X6_feedNumber rfl rfl rfl (by decide +kernel) ⟨(Nat.le_of_ble_eq_true rfl), (Nat.le_of_ble_eq_true rfl)⟩) (k_pV hPc hDc hK hN hC hS hFc hP (q0 := 0) (ci := 6) rfl rfl) rfl rfl hl.1 rfl (lv_room (Nat.le_of_ble_eq_true rfl)) dX6_feed_28 ⟨(Nat.le_of_ble_eq_true rfl), (Nat.le_of_ble_eq_true rfl)⟩) hP hD hS hA [0, 1] [] rfl rfl rfl rfl (by decide) (fun _ => rfl) 0 0 rfl rfl (fun u_8 H locs hw hP hD hS => ?_)
  have hP : va_P (dC, dI) vwCl [(p0, .inr (6, [.ref (p6 0), .int 8, .ref (p6 1), .ref (p6 14), .ref (p6 27), .ref (p6 28), .ref (p6 29), .ref (p6 30), .ref (p6 54), .null, .int 1, .int 1, .int 999, .ref (p6 61), .ref (p6 62), .ref (p6 63), .ref (p6 60)])), ((p6 0), .inl (cI, 1600, .inl (upd (upd (upd (upd (upd (upd (upd (upd (fun _ => 0) 0 y_3) 1 y_4) 2 y_5) 3 y_6) 4 (((p2.toUInt32 >>> ((24 : Int32).toUInt32 &&& Int32.toUInt32 31)).toInt32) &&& 255)) 5 (((p2.toUInt32 >>> ((16 : Int32).toUInt32 &&& Int32.toUInt32 31)).toInt32) &&& 255)) 6 (((p2.toUInt32 >>> ((8 : Int32).toUInt32 &&& Int32.toUInt32 31)).toInt32) &&& 255)) 7 (((p2.toUInt32 >>> ((0 : Int32).toUInt32 &&& Int32.toUInt32 31)).toInt32) &&& 255))))] H := hP
  have hD : va_D A [(p0, .inr (6, [.ref (p6 0), .int 8, .ref (p6 1), .ref (p6 14), .ref (p6 27), .ref (p6 28), .ref (p6 29), .ref (p6 30), .ref (p6 54), .null, .int 1, .int 1, .int 999, .ref (p6 61), .ref (p6 62), .ref (p6 63), .ref (p6 60)])), ((p6 0), .inl (cI, 1600, .inl (upd (upd (upd (upd (upd (upd (upd (upd (fun _ => 0) 0 y_3) 1 y_4) 2 y_5) 3 y_6) 4 (((p2.toUInt32 >>> ((24 : Int32).toUInt32 &&& Int32.toUInt32 31)).toInt32) &&& 255)) 5 (((p2.toUInt32 >>> ((16 : Int32).toUInt32 &&& Int32.toUInt32 31)).toInt32) &&& 255)) 6 (((p2.toUInt32 >>> ((8 : Int32).toUInt32 &&& Int32.toUInt32 31)).toInt32) &&& 255)) 7 (((p2.toUInt32 >>> ((0 : Int32).toUInt32 &&& Int32.toUInt32 31)).toInt32) &&& 255))))] := hD
  generalize ey_9 : (((p2.toUInt32 >>> ((24 : Int32).toUInt32 &&& Int32.toUInt32 31)).toInt32) &&& 255) = y_9 at hP hD
  generalize ey_10 : (((p2.toUInt32 >>> ((16 : Int32).toUInt32 &&& Int32.toUInt32 31)).toInt32) &&& 255) = y_10 at hP hD
  generalize ey_11 : (((p2.toUInt32 >>> ((8 : Int32).toUInt32 &&& Int32.toUInt32 31)).toInt32) &&& 255) = y_11 at hP hD
  generalize ey_12 : (((p2.toUInt32 >>> ((0 : Int32).toUInt32 &&& Int32.toUInt32 31)).toInt32) &&& 255) = y_12 at hP hD
  refine lv_aload_n hx hb dX6_feed_31 rfl (lv_at hl 0 rfl) ?_
  refine lv_iload_n hx hb dX6_feed_32 rfl (lv_at hl 3 rfl) ?_
  refine k_cv (wc := [(p0, .inr (6, [.ref (p6 0), .int 8, .ref (p6 1), .ref (p6 14), .ref (p6 27), .ref (p6 28), .ref (p6 29), .ref (p6 30), .ref (p6 54), .null, .int 1, .int 1, .int 999, .ref (p6 61), .ref (p6 62), .ref (p6 63), .ref (p6 60)])), ((p6 0), .inl (cI, 1600, .inl (upd (upd (upd (upd (upd (upd (upd (upd (fun _ => 0) 0 y_3) 1 y_4) 2 y_5) 3 y_6) 4 y_9) 5 y_10) 6 y_11) 7 y_12)))]) (wr := []) (fun hPc hDc hFc => va_runV (As := [.int p3]) (rest := []) ⟨hx, hb, hml, hown, hts⟩ (c_X6_feedNumber_v2 l dC dI cI cJ cZ cM p0 p3 p6 y_3 y_4 y_5 y_6 y_9 y_10 y_11 y_12 H.size) (cwV 1 hts gX6_feed_X6_feedNumber rfl rfl rfl (by decide +kernel) ⟨(Nat.le_of_ble_eq_true rfl), (Nat.le_of_ble_eq_true rfl)⟩) (k_pV hPc hDc hK hN hC hS hFc hP (q0 := 0) (ci := 6) rfl rfl) rfl rfl hl.1 rfl (lv_room (Nat.le_of_ble_eq_true rfl)) dX6_feed_33 ⟨(Nat.le_of_ble_eq_true rfl), (Nat.le_of_ble_eq_true rfl)⟩) hP hD hS hA [0, 1] [] rfl rfl rfl rfl (by decide) (fun _ => rfl) 0 0 rfl rfl (fun u_14 H locs hw hP hD hS => ?_)
  have hP : va_P (dC, dI) vwCl [(p0, .inr (6, [.ref (p6 0), .int 12, .ref (p6 1), .ref (p6 14), .ref (p6 27), .ref (p6 28), .ref (p6 29), .ref (p6 30), .ref (p6 54), .null, .int 1, .int 1, .int 999, .ref (p6 61), .ref (p6 62), .ref (p6 63), .ref (p6 60)])), ((p6 0), .inl (cI, 1600, .inl (upd (upd (upd (upd (upd (upd (upd (upd (upd (upd (upd (upd (fun _ => 0) 0 y_3) 1 y_4) 2 y_5) 3 y_6) 4 y_9) 5 y_10) 6 y_11) 7 y_12) 8 (((p3.toUInt32 >>> ((24 : Int32).toUInt32 &&& Int32.toUInt32 31)).toInt32) &&& 255)) 9 (((p3.toUInt32 >>> ((16 : Int32).toUInt32 &&& Int32.toUInt32 31)).toInt32) &&& 255)) 10 (((p3.toUInt32 >>> ((8 : Int32).toUInt32 &&& Int32.toUInt32 31)).toInt32) &&& 255)) 11 (((p3.toUInt32 >>> ((0 : Int32).toUInt32 &&& Int32.toUInt32 31)).toInt32) &&& 255))))] H := hP
  have hD : va_D A [(p0, .inr (6, [.ref (p6 0), .int 12, .ref (p6 1), .ref (p6 14), .ref (p6 27), .ref (p6 28), .ref (p6 29), .ref (p6 30), .ref (p6 54), .null, .int 1, .int 1, .int 999, .ref (p6 61), .ref (p6 62), .ref (p6 63), .ref (p6 60)])), ((p6 0), .inl (cI, 1600, .inl (upd (upd (upd (upd (upd (upd (upd (upd (upd (upd (upd (upd (fun _ => 0) 0 y_3) 1 y_4) 2 y_5) 3 y_6) 4 y_9) 5 y_10) 6 y_11) 7 y_12) 8 (((p3.toUInt32 >>> ((24 : Int32).toUInt32 &&& Int32.toUInt32 31)).toInt32) &&& 255)) 9 (((p3.toUInt32 >>> ((16 : Int32).toUInt32 &&& Int32.toUInt32 31)).toInt32) &&& 255)) 10 (((p3.toUInt32 >>> ((8 : Int32).toUInt32 &&& Int32.toUInt32 31)).toInt32) &&& 255)) 11 (((p3.toUInt32 >>> ((0 : Int32).toUInt32 &&& Int32.toUInt32 31)).toInt32) &&& 255))))] := hD
  generalize ey_15 : (((p3.toUInt32 >>> ((24 : Int32).toUInt32 &&& Int32.toUInt32 31)).toInt32) &&& 255) = y_15 at hP hD
  generalize ey_16 : (((p3.toUInt32 >>> ((16 : Int32).toUInt32 &&& Int32.toUInt32 31)).toInt32) &&& 255) = y_16 at hP hD
  generalize ey_17 : (((p3.toUInt32 >>> ((8 : Int32).toUInt32 &&& Int32.toUInt32 31)).toInt32) &&& 255) = y_17 at hP hD
  generalize ey_18 : (((p3.toUInt32 >>> ((0 : Int32).toUInt32 &&& Int32.toUInt32 31)).toInt32) &&& 255) = y_18 at hP hD
  refine lv_aload_n hx hb dX6_feed_36 rfl (lv_at hl 0 rfl) ?_
  refine lv_iload hx hb dX6_feed_37 (lv_at hl 4 rfl) ?_
  refine k_cv (wc := [(p0, .inr (6, [.ref (p6 0), .int 12, .ref (p6 1), .ref (p6 14), .ref (p6 27), .ref (p6 28), .ref (p6 29), .ref (p6 30), .ref (p6 54), .null, .int 1, .int 1, .int 999, .ref (p6 61), .ref (p6 62), .ref (p6 63), .ref (p6 60)])), ((p6 0), .inl (cI, 1600, .inl (upd (upd (upd (upd (upd (upd (upd (upd (upd (upd (upd (upd (fun _ => 0) 0 y_3) 1 y_4) 2 y_5) 3 y_6) 4 y_9) 5 y_10) 6 y_11) 7 y_12) 8 y_15) 9 y_16) 10 y_17) 11 y_18)))]) (wr := []) (fun hPc hDc hFc => va_runV (As := [.int p4]) (rest := []) ⟨hx, hb, hml, hown, hts⟩ (c_X6_feedNumber_v3 l dC dI cI cJ cZ cM p0 p4 p6 y_3 y_4 y_5 y_6 y_9 y_10 y_11 y_12 y_15 y_16 y_17 y_18 H.size) (cwV 1 hts gX6_feed_X6_feedNumber rfl rfl rfl (by decide +kernel) ⟨(Nat.le_of_ble_eq_true rfl), (Nat.le_of_ble_eq_true rfl)⟩) (k_pV hPc hDc hK hN hC hS hFc hP (q0 := 0) (ci := 6) rfl rfl) rfl rfl hl.1 rfl (lv_room (Nat.le_of_ble_eq_true rfl)) dX6_feed_39 ⟨(Nat.le_of_ble_eq_true rfl), (Nat.le_of_ble_eq_true rfl)⟩) hP hD hS hA [0, 1] [] rfl rfl rfl rfl (by decide) (fun _ => rfl) 0 0 rfl rfl (fun u_20 H locs hw hP hD hS => ?_)
  have hP : va_P (dC, dI) vwCl [(p0, .inr (6, [.ref (p6 0), .int 16, .ref (p6 1), .ref (p6 14), .ref (p6 27), .ref (p6 28), .ref (p6 29), .ref (p6 30), .ref (p6 54), .null, .int 1, .int 1, .int 999, .ref (p6 61), .ref (p6 62), .ref (p6 63), .ref (p6 60)])), ((p6 0), .inl (cI, 1600, .inl (upd (upd (upd (upd (upd (upd (upd (upd (upd (upd (upd (upd (upd (upd (upd (upd (fun _ => 0) 0 y_3) 1 y_4) 2 y_5) 3 y_6) 4 y_9) 5 y_10) 6 y_11) 7 y_12) 8 y_15) 9 y_16) 10 y_17) 11 y_18) 12 (((p4.toUInt32 >>> ((24 : Int32).toUInt32 &&& Int32.toUInt32 31)).toInt32) &&& 255)) 13 (((p4.toUInt32 >>> ((16 : Int32).toUInt32 &&& Int32.toUInt32 31)).toInt32) &&& 255)) 14 (((p4.toUInt32 >>> ((8 : Int32).toUInt32 &&& Int32.toUInt32 31)).toInt32) &&& 255)) 15 (((p4.toUInt32 >>> ((0 : Int32).toUInt32 &&& Int32.toUInt32 31)).toInt32) &&& 255))))] H := hP
  have hD : va_D A [(p0, .inr (6, [.ref (p6 0), .int 16, .ref (p6 1), .ref (p6 14), .ref (p6 27), .ref (p6 28), .ref (p6 29), .ref (p6 30), .ref (p6 54), .null, .int 1, .int 1, .int 999, .ref (p6 61), .ref (p6 62), .ref (p6 63), .ref (p6 60)])), ((p6 0), .inl (cI, 1600, .inl (upd (upd (upd (upd (upd (upd (upd (upd (upd (upd (upd (upd (upd (upd (upd (upd (fun _ => 0) 0 y_3) 1 y_4) 2 y_5) 3 y_6) 4 y_9) 5 y_10) 6 y_11) 7 y_12) 8 y_15) 9 y_16) 10 y_17) 11 y_18) 12 (((p4.toUInt32 >>> ((24 : Int32).toUInt32 &&& Int32.toUInt32 31)).toInt32) &&& 255)) 13 (((p4.toUInt32 >>> ((16 : Int32).toUInt32 &&& Int32.toUInt32 31)).toInt32) &&& 255)) 14 (((p4.toUInt32 >>> ((8 : Int32).toUInt32 &&& Int32.toUInt32 31)).toInt32) &&& 255)) 15 (((p4.toUInt32 >>> ((0 : Int32).toUInt32 &&& Int32.toUInt32 31)).toInt32) &&& 255))))] := hD
  generalize ey_21 : (((p4.toUInt32 >>> ((24 : Int32).toUInt32 &&& Int32.toUInt32 31)).toInt32) &&& 255) = y_21 at hP hD
  generalize ey_22 : (((p4.toUInt32 >>> ((16 : Int32).toUInt32 &&& Int32.toUInt32 31)).toInt32) &&& 255) = y_22 at hP hD
  generalize ey_23 : (((p4.toUInt32 >>> ((8 : Int32).toUInt32 &&& Int32.toUInt32 31)).toInt32) &&& 255) = y_23 at hP hD
  generalize ey_24 : (((p4.toUInt32 >>> ((0 : Int32).toUInt32 &&& Int32.toUInt32 31)).toInt32) &&& 255) = y_24 at hP hD
  refine lv_aload_n hx hb dX6_feed_42 rfl (lv_at hl 0 rfl) ?_
  refine lv_iload hx hb dX6_feed_43 (lv_at hl 5 rfl) ?_
  refine k_cv (wc := [(p0, .inr (6, [.ref (p6 0), .int 16, .ref (p6 1), .ref (p6 14), .ref (p6 27), .ref (p6 28), .ref (p6 29), .ref (p6 30), .ref (p6 54), .null, .int 1, .int 1, .int 999, .ref (p6 61), .ref (p6 62), .ref (p6 63), .ref (p6 60)])), ((p6 0), .inl (cI, 1600, .inl (upd (upd (upd (upd (upd (upd (upd (upd (upd (upd (upd (upd (upd (upd (upd (upd (fun _ => 0) 0 y_3) 1 y_4) 2 y_5) 3 y_6) 4 y_9) 5 y_10) 6 y_11) 7 y_12) 8 y_15) 9 y_16) 10 y_17) 11 y_18) 12 y_21) 13 y_22) 14 y_23) 15 y_24)))]) (wr := []) (fun hPc hDc hFc => va_runV (As := [.int p5]) (rest := []) ⟨hx, hb, hml, hown, hts⟩ (c_X6_feedNumber_v4 l dC dI cI cJ cZ cM p0 p5 p6 y_3 y_4 y_5 y_6 y_9 y_10 y_11 y_12 y_15 y_16 y_17 y_18 y_21 y_22 y_23 y_24 H.size) (cwV 1 hts gX6_feed_X6_feedNumber rfl rfl rfl (by decide +kernel) ⟨(Nat.le_of_ble_eq_true rfl), (Nat.le_of_ble_eq_true rfl)⟩) (k_pV hPc hDc hK hN hC hS hFc hP (q0 := 0) (ci := 6) rfl rfl) rfl rfl hl.1 rfl (lv_room (Nat.le_of_ble_eq_true rfl)) dX6_feed_45 ⟨(Nat.le_of_ble_eq_true rfl), (Nat.le_of_ble_eq_true rfl)⟩) hP hD hS hA [0, 1] [] rfl rfl rfl rfl (by decide) (fun _ => rfl) 0 0 rfl rfl (fun u_26 H locs hw hP hD hS => ?_)
  have hP : va_P (dC, dI) vwCl [(p0, .inr (6, [.ref (p6 0), .int 20, .ref (p6 1), .ref (p6 14), .ref (p6 27), .ref (p6 28), .ref (p6 29), .ref (p6 30), .ref (p6 54), .null, .int 1, .int 1, .int 999, .ref (p6 61), .ref (p6 62), .ref (p6 63), .ref (p6 60)])), ((p6 0), .inl (cI, 1600, .inl (upd (upd (upd (upd (upd (upd (upd (upd (upd (upd (upd (upd (upd (upd (upd (upd (upd (upd (upd (upd (fun _ => 0) 0 y_3) 1 y_4) 2 y_5) 3 y_6) 4 y_9) 5 y_10) 6 y_11) 7 y_12) 8 y_15) 9 y_16) 10 y_17) 11 y_18) 12 y_21) 13 y_22) 14 y_23) 15 y_24) 16 (((p5.toUInt32 >>> ((24 : Int32).toUInt32 &&& Int32.toUInt32 31)).toInt32) &&& 255)) 17 (((p5.toUInt32 >>> ((16 : Int32).toUInt32 &&& Int32.toUInt32 31)).toInt32) &&& 255)) 18 (((p5.toUInt32 >>> ((8 : Int32).toUInt32 &&& Int32.toUInt32 31)).toInt32) &&& 255)) 19 (((p5.toUInt32 >>> ((0 : Int32).toUInt32 &&& Int32.toUInt32 31)).toInt32) &&& 255))))] H := hP
  have hD : va_D A [(p0, .inr (6, [.ref (p6 0), .int 20, .ref (p6 1), .ref (p6 14), .ref (p6 27), .ref (p6 28), .ref (p6 29), .ref (p6 30), .ref (p6 54), .null, .int 1, .int 1, .int 999, .ref (p6 61), .ref (p6 62), .ref (p6 63), .ref (p6 60)])), ((p6 0), .inl (cI, 1600, .inl (upd (upd (upd (upd (upd (upd (upd (upd (upd (upd (upd (upd (upd (upd (upd (upd (upd (upd (upd (upd (fun _ => 0) 0 y_3) 1 y_4) 2 y_5) 3 y_6) 4 y_9) 5 y_10) 6 y_11) 7 y_12) 8 y_15) 9 y_16) 10 y_17) 11 y_18) 12 y_21) 13 y_22) 14 y_23) 15 y_24) 16 (((p5.toUInt32 >>> ((24 : Int32).toUInt32 &&& Int32.toUInt32 31)).toInt32) &&& 255)) 17 (((p5.toUInt32 >>> ((16 : Int32).toUInt32 &&& Int32.toUInt32 31)).toInt32) &&& 255)) 18 (((p5.toUInt32 >>> ((8 : Int32).toUInt32 &&& Int32.toUInt32 31)).toInt32) &&& 255)) 19 (((p5.toUInt32 >>> ((0 : Int32).toUInt32 &&& Int32.toUInt32 31)).toInt32) &&& 255))))] := hD
  generalize ey_27 : (((p5.toUInt32 >>> ((24 : Int32).toUInt32 &&& Int32.toUInt32 31)).toInt32) &&& 255) = y_27 at hP hD
  generalize ey_28 : (((p5.toUInt32 >>> ((16 : Int32).toUInt32 &&& Int32.toUInt32 31)).toInt32) &&& 255) = y_28 at hP hD
  generalize ey_29 : (((p5.toUInt32 >>> ((8 : Int32).toUInt32 &&& Int32.toUInt32 31)).toInt32) &&& 255) = y_29 at hP hD
  generalize ey_30 : (((p5.toUInt32 >>> ((0 : Int32).toUInt32 &&& Int32.toUInt32 31)).toInt32) &&& 255) = y_30 at hP hD
  refine lv_aload_n hx hb dX6_feed_48 rfl (lv_at hl 0 rfl) ?_
  refine k_get (D := (dC, dI)) (ci := 6) (v := .int 20) (C := RX6) (T := TX6) (N := 17) hx hb hts hinX6 hown hK hP 0 rfl rfl 1 (by decide) w_0 rfl rfl dX6_feed_49 ?_
  subst ey_30
  subst ey_29
  subst ey_28
  subst ey_27
  subst ey_24
  subst ey_23
  subst ey_22
  subst ey_21
  subst ey_18
  subst ey_17
  subst ey_16
  subst ey_15
  subst ey_12
  subst ey_11
  subst ey_10
  subst ey_9
  subst ey_6
  subst ey_5
  subst ey_4
  subst ey_3
  exact k_ri B hP hD hS dX6_feed_52 () [0, 1] rfl rfl rfl (Nat.le_of_ble_eq_true rfl) (Nat.le_of_ble_eq_true rfl) rfl
set_option maxHeartbeats 4000000 in
set_option maxRecDepth 100000 in
theorem c_X7_put_v0 (l : Launch) (dC : Nat → ClassId) (dI : Nat → Nat → Nat) (cI cJ cZ cM : ClassId) (p0 : Nat) (p1 : Int32) (p2 : Nat → Nat)   : k_Mv l yX7_put wsX7_put ({ frames := 1, cells := 0, slots := 0, locals := 40 }) (dC, dI) vwCl (tyy cI cJ cZ cM) [(p0, .inr (7, oM p2 i7 j7)), ((p2 0), .inl (cI, 1800, .inl (fun _ => 0)))] [.ref p0, .int p1] 0 0 (fun (u9 : Unit) => [(p0, .inr (7, oM p2 (upd i7 1 4) j7)), ((p2 0), .inl (cI, 1800, .inl (upd (upd (upd (upd (fun _ => 0) 0 ((p1 >>> (24 &&& 31)) &&& 255)) 1 ((p1 >>> (16 &&& 31)) &&& 255)) 2 ((p1 >>> (8 &&& 31)) &&& 255)) 3 ((p1 >>> (0 &&& 31)) &&& 255))))]) (fun (u9 : Unit) => True) := by
  refine fun sz => k_enter (cc := cX7_put) (maxL := 3) (ret := none) (Qc := fun A => va_Qv (fun (u9 : Unit) => True) (fun u => k_B (dC, dI) vwCl (tyy cI cJ cZ cM) A ((fun (u9 : Unit) => [(p0, .inr (7, oM p2 (upd i7 1 4) j7)), ((p2 0), .inl (cI, 1800, .inl (upd (upd (upd (upd (fun _ => 0) 0 ((p1 >>> (24 &&& 31)) &&& 255)) 1 ((p1 >>> (16 &&& 31)) &&& 255)) 2 ((p1 >>> (8 &&& 31)) &&& 255)) 3 ((p1 >>> (0 &&& 31)) &&& 255))))]) u)) A) sz (by decide +kernel) rfl (Nat.le_of_ble_eq_true rfl) (fun p e s m args below meth c A ls H locs B hP hD hS hl => ?_)
  obtain ⟨hx, hb, hml, hown, hts, hr, hlk, hnm, hK, hA, hN, hC⟩ := id B
  have hown : s.vm.findClass RX7 = some m.cls := hown
  have hl : lv_has ls 3 [(0, .ref p0), (1, .int p1)] := hl
  have w_0 : (Cond.fieldLink RX7 7 "WishSeaModel" "tape" "[I").before args s = true := hts _ (List.mem_of_getElem? (i := 1) rfl)
  have w_1 : (Cond.fieldLink RX7 13 "WishSeaModel" "taped" "I").before args s = true := hts _ (List.mem_of_getElem? (i := 2) rfl)
  have hinX7 : ∀ w ∈ u_ws RX7 TX7 92, w ∈ wsX7_put := fun _ h => List.mem_cons_of_mem _ (List.mem_append_right _ h)
  refine lv_bipush (v := 24) hx hb dX7_put_0 (by decide +kernel) ?_
  refine lv_istore_n (lv' := [(2, .int 24), (0, .ref p0), (1, .int p1)]) hx hb dX7_put_2 rfl hl (by decide) rfl (fun ls hl => ?_)
  refine lv_iload_n hx hb dX7_put_3 rfl (lv_at hl 0 rfl) ?_
  refine lv_if_lt (tgt := 39) hx hb dX7_put_4 (by decide) (fun q9 => absurd q9 (by decide +kernel)) (fun _ => ?_)
  refine lv_aload_n hx hb dX7_put_7 rfl (lv_at hl 1 rfl) ?_
  refine k_get (D := (dC, dI)) (ci := 7) (v := .ref (p2 0)) (C := RX7) (T := TX7) (N := 92) hx hb hts hinX7 hown hK hP 0 rfl rfl 0 (by decide) w_0 rfl rfl dX7_put_8 ?_
  refine lv_aload_n hx hb dX7_put_11 rfl (lv_at hl 1 rfl) ?_
  refine k_get (D := (dC, dI)) (ci := 7) (v := .int 0) (C := RX7) (T := TX7) (N := 92) hx hb hts hinX7 hown hK hP 0 rfl rfl 1 (by decide) w_1 rfl rfl dX7_put_12 ?_
  refine lv_iload_n hx hb dX7_put_15 rfl (lv_at hl 2 rfl) ?_
  refine lv_iload_n hx hb dX7_put_16 rfl (lv_at hl 0 rfl) ?_
  refine lv_ishr hx hb dX7_put_17 ?_
  refine lv_sipush (v := 255) hx hb dX7_put_18 (by decide +kernel) ?_
  refine lv_iand hx hb dX7_put_21 ?_
  refine lv_topi (fun y_1 ey_1 => ?_)
  refine k_iast (g := (upd (fun _ => 0) 0 y_1)) (ws' := [(p0, .inr (7, oM p2 i7 j7)), ((p2 0), .inl (cI, 1800, .inl (upd (fun _ => 0) 0 y_1)))]) hx hb hK hP hD hS 1 0 0 rfl rfl rfl (Nat.le_of_ble_eq_true rfl) (Nat.le_of_ble_eq_true rfl) rfl rfl dX7_put_22 (fun H locs hP hD hS => ?_)
  refine lv_aload_n hx hb dX7_put_23 rfl (lv_at hl 1 rfl) ?_
  refine lv_dup hx hb dX7_put_24 rfl ?_
  refine k_get (D := (dC, dI)) (ci := 7) (v := .int 0) (C := RX7) (T := TX7) (N := 92) hx hb hts hinX7 hown hK hP 0 rfl rfl 1 (by decide) w_1 rfl rfl dX7_put_25 ?_
  refine lv_iconst (v := 1) hx hb dX7_put_28 (by decide +kernel) ?_
  refine lv_iadd hx hb dX7_put_29 ?_
  refine k_int (v := 1) (by decide +kernel) ?_
  refine k_put (D := (dC, dI)) (ci := 7) (v := .int 1) (C := RX7) (T := TX7) (N := 92) (ws' := [(p0, .inr (7, oM p2 (upd i7 1 1) j7)), ((p2 0), .inl (cI, 1800, .inl (upd (fun _ => 0) 0 y_1)))]) hx hb hts hinX7 tyX7 tyX7_ok nmX7 hown hK hP hD hS 0 rfl rfl 1 (by decide) w_1 rfl rfl rfl rfl (Nat.le_of_ble_eq_true rfl) rfl dX7_put_30 (fun H locs hP hD hS => ?_)
  refine lv_iinc (v := 16) (lv' := [(2, .int 16), (0, .ref p0), (1, .int p1)]) hx hb dX7_put_33 hl (k := 0) rfl (by decide +kernel) (by decide) rfl (fun ls hl => ?_)
  refine lv_goto (tgt := 3) hx hb dX7_put_36 (by decide) ?_
  refine lv_iload_n hx hb dX7_put_3 rfl (lv_at hl 0 rfl) ?_
  refine lv_if_lt (tgt := 39) hx hb dX7_put_4 (by decide) (fun q9 => absurd q9 (by decide +kernel)) (fun _ => ?_)
  refine lv_aload_n hx hb dX7_put_7 rfl (lv_at hl 1 rfl) ?_
  refine k_get (D := (dC, dI)) (ci := 7) (v := .ref (p2 0)) (C := RX7) (T := TX7) (N := 92) hx hb hts hinX7 hown hK hP 0 rfl rfl 0 (by decide) w_0 rfl rfl dX7_put_8 ?_
  refine lv_aload_n hx hb dX7_put_11 rfl (lv_at hl 1 rfl) ?_
  refine k_get (D := (dC, dI)) (ci := 7) (v := .int 1) (C := RX7) (T := TX7) (N := 92) hx hb hts hinX7 hown hK hP 0 rfl rfl 1 (by decide) w_1 rfl rfl dX7_put_12 ?_
  refine lv_iload_n hx hb dX7_put_15 rfl (lv_at hl 2 rfl) ?_
  refine lv_iload_n hx hb dX7_put_16 rfl (lv_at hl 0 rfl) ?_
  refine lv_ishr hx hb dX7_put_17 ?_
  refine lv_sipush (v := 255) hx hb dX7_put_18 (by decide +kernel) ?_
  refine lv_iand hx hb dX7_put_21 ?_
  refine lv_topi (fun y_2 ey_2 => ?_)
  refine k_iast (g := (upd (upd (fun _ => 0) 0 y_1) 1 y_2)) (ws' := [(p0, .inr (7, oM p2 (upd i7 1 1) j7)), ((p2 0), .inl (cI, 1800, .inl (upd (upd (fun _ => 0) 0 y_1) 1 y_2)))]) hx hb hK hP hD hS 1 0 1 rfl rfl rfl (Nat.le_of_ble_eq_true rfl) (Nat.le_of_ble_eq_true rfl) rfl rfl dX7_put_22 (fun H locs hP hD hS => ?_)
  refine lv_aload_n hx hb dX7_put_23 rfl (lv_at hl 1 rfl) ?_
  refine lv_dup hx hb dX7_put_24 rfl ?_
  refine k_get (D := (dC, dI)) (ci := 7) (v := .int 1) (C := RX7) (T := TX7) (N := 92) hx hb hts hinX7 hown hK hP 0 rfl rfl 1 (by decide) w_1 rfl rfl dX7_put_25 ?_
  refine lv_iconst (v := 1) hx hb dX7_put_28 (by decide +kernel) ?_
  refine lv_iadd hx hb dX7_put_29 ?_
  refine k_int (v := 2) (by decide +kernel) ?_
  refine k_put (D := (dC, dI)) (ci := 7) (v := .int 2) (C := RX7) (T := TX7) (N := 92) (ws' := [(p0, .inr (7, oM p2 (upd i7 1 2) j7)), ((p2 0), .inl (cI, 1800, .inl (upd (upd (fun _ => 0) 0 y_1) 1 y_2)))]) hx hb hts hinX7 tyX7 tyX7_ok nmX7 hown hK hP hD hS 0 rfl rfl 1 (by decide) w_1 rfl rfl rfl rfl (Nat.le_of_ble_eq_true rfl) rfl dX7_put_30 (fun H locs hP hD hS => ?_)
  refine lv_iinc (v := 8) (lv' := [(2, .int 8), (0, .ref p0), (1, .int p1)]) hx hb dX7_put_33 hl (k := 0) rfl (by decide +kernel) (by decide) rfl (fun ls hl => ?_)
  refine lv_goto (tgt := 3) hx hb dX7_put_36 (by decide) ?_
  refine lv_iload_n hx hb dX7_put_3 rfl (lv_at hl 0 rfl) ?_
  refine lv_if_lt (tgt := 39) hx hb dX7_put_4 (by decide) (fun q9 => absurd q9 (by decide +kernel)) (fun _ => ?_)
  refine lv_aload_n hx hb dX7_put_7 rfl (lv_at hl 1 rfl) ?_
  refine k_get (D := (dC, dI)) (ci := 7) (v := .ref (p2 0)) (C := RX7) (T := TX7) (N := 92) hx hb hts hinX7 hown hK hP 0 rfl rfl 0 (by decide) w_0 rfl rfl dX7_put_8 ?_
  refine lv_aload_n hx hb dX7_put_11 rfl (lv_at hl 1 rfl) ?_
  refine k_get (D := (dC, dI)) (ci := 7) (v := .int 2) (C := RX7) (T := TX7) (N := 92) hx hb hts hinX7 hown hK hP 0 rfl rfl 1 (by decide) w_1 rfl rfl dX7_put_12 ?_
  refine lv_iload_n hx hb dX7_put_15 rfl (lv_at hl 2 rfl) ?_
  refine lv_iload_n hx hb dX7_put_16 rfl (lv_at hl 0 rfl) ?_
  refine lv_ishr hx hb dX7_put_17 ?_
  refine lv_sipush (v := 255) hx hb dX7_put_18 (by decide +kernel) ?_
  refine lv_iand hx hb dX7_put_21 ?_
  refine lv_topi (fun y_3 ey_3 => ?_)
  refine k_iast (g := (upd (upd (upd (fun _ => 0) 0 y_1) 1 y_2) 2 y_3)) (ws' := [(p0, .inr (7, oM p2 (upd i7 1 2) j7)), ((p2 0), .inl (cI, 1800, .inl (upd (upd (upd (fun _ => 0) 0 y_1) 1 y_2) 2 y_3)))]) hx hb hK hP hD hS 1 0 2 rfl rfl rfl (Nat.le_of_ble_eq_true rfl) (Nat.le_of_ble_eq_true rfl) rfl rfl dX7_put_22 (fun H locs hP hD hS => ?_)
  refine lv_aload_n hx hb dX7_put_23 rfl (lv_at hl 1 rfl) ?_
  refine lv_dup hx hb dX7_put_24 rfl ?_
  refine k_get (D := (dC, dI)) (ci := 7) (v := .int 2) (C := RX7) (T := TX7) (N := 92) hx hb hts hinX7 hown hK hP 0 rfl rfl 1 (by decide) w_1 rfl rfl dX7_put_25 ?_
  refine lv_iconst (v := 1) hx hb dX7_put_28 (by decide +kernel) ?_
  refine lv_iadd hx hb dX7_put_29 ?_
  refine k_int (v := 3) (by decide +kernel) ?_
  refine k_put (D := (dC, dI)) (ci := 7) (v := .int 3) (C := RX7) (T := TX7) (N := 92) (ws' := [(p0, .inr (7, oM p2 (upd i7 1 3) j7)), ((p2 0), .inl (cI, 1800, .inl (upd (upd (upd (fun _ => 0) 0 y_1) 1 y_2) 2 y_3)))]) hx hb hts hinX7 tyX7 tyX7_ok nmX7 hown hK hP hD hS 0 rfl rfl 1 (by decide) w_1 rfl rfl rfl rfl (Nat.le_of_ble_eq_true rfl) rfl dX7_put_30 (fun H locs hP hD hS => ?_)
  refine lv_iinc (v := 0) (lv' := [(2, .int 0), (0, .ref p0), (1, .int p1)]) hx hb dX7_put_33 hl (k := 0) rfl (by decide +kernel) (by decide) rfl (fun ls hl => ?_)
  refine lv_goto (tgt := 3) hx hb dX7_put_36 (by decide) ?_
  refine lv_iload_n hx hb dX7_put_3 rfl (lv_at hl 0 rfl) ?_
  refine lv_if_lt (tgt := 39) hx hb dX7_put_4 (by decide) (fun q9 => absurd q9 (by decide +kernel)) (fun _ => ?_)
  refine lv_aload_n hx hb dX7_put_7 rfl (lv_at hl 1 rfl) ?_
  refine k_get (D := (dC, dI)) (ci := 7) (v := .ref (p2 0)) (C := RX7) (T := TX7) (N := 92) hx hb hts hinX7 hown hK hP 0 rfl rfl 0 (by decide) w_0 rfl rfl dX7_put_8 ?_
  refine lv_aload_n hx hb dX7_put_11 rfl (lv_at hl 1 rfl) ?_
  refine k_get (D := (dC, dI)) (ci := 7) (v := .int 3) (C := RX7) (T := TX7) (N := 92) hx hb hts hinX7 hown hK hP 0 rfl rfl 1 (by decide) w_1 rfl rfl dX7_put_12 ?_
  refine lv_iload_n hx hb dX7_put_15 rfl (lv_at hl 2 rfl) ?_
  refine lv_iload_n hx hb dX7_put_16 rfl (lv_at hl 0 rfl) ?_
  refine lv_ishr hx hb dX7_put_17 ?_
  refine lv_sipush (v := 255) hx hb dX7_put_18 (by decide +kernel) ?_
  refine lv_iand hx hb dX7_put_21 ?_
  refine lv_topi (fun y_4 ey_4 => ?_)
  refine k_iast (g := (upd (upd (upd (upd (fun _ => 0) 0 y_1) 1 y_2) 2 y_3) 3 y_4)) (ws' := [(p0, .inr (7, oM p2 (upd i7 1 3) j7)), ((p2 0), .inl (cI, 1800, .inl (upd (upd (upd (upd (fun _ => 0) 0 y_1) 1 y_2) 2 y_3) 3 y_4)))]) hx hb hK hP hD hS 1 0 3 rfl rfl rfl (Nat.le_of_ble_eq_true rfl) (Nat.le_of_ble_eq_true rfl) rfl rfl dX7_put_22 (fun H locs hP hD hS => ?_)
  refine lv_aload_n hx hb dX7_put_23 rfl (lv_at hl 1 rfl) ?_
  refine lv_dup hx hb dX7_put_24 rfl ?_
  refine k_get (D := (dC, dI)) (ci := 7) (v := .int 3) (C := RX7) (T := TX7) (N := 92) hx hb hts hinX7 hown hK hP 0 rfl rfl 1 (by decide) w_1 rfl rfl dX7_put_25 ?_
  refine lv_iconst (v := 1) hx hb dX7_put_28 (by decide +kernel) ?_
  refine lv_iadd hx hb dX7_put_29 ?_
  refine k_int (v := 4) (by decide +kernel) ?_
  refine k_put (D := (dC, dI)) (ci := 7) (v := .int 4) (C := RX7) (T := TX7) (N := 92) (ws' := [(p0, .inr (7, oM p2 (upd i7 1 4) j7)), ((p2 0), .inl (cI, 1800, .inl (upd (upd (upd (upd (fun _ => 0) 0 y_1) 1 y_2) 2 y_3) 3 y_4)))]) hx hb hts hinX7 tyX7 tyX7_ok nmX7 hown hK hP hD hS 0 rfl rfl 1 (by decide) w_1 rfl rfl rfl rfl (Nat.le_of_ble_eq_true rfl) rfl dX7_put_30 (fun H locs hP hD hS => ?_)
  refine lv_iinc (v := (-8)) (lv' := [(2, .int (-8)), (0, .ref p0), (1, .int p1)]) hx hb dX7_put_33 hl (k := 0) rfl (by decide +kernel) (by decide) rfl (fun ls hl => ?_)
  refine lv_goto (tgt := 3) hx hb dX7_put_36 (by decide) ?_
  refine lv_iload_n hx hb dX7_put_3 rfl (lv_at hl 0 rfl) ?_
  refine lv_if_lt (tgt := 39) hx hb dX7_put_4 (by decide) (fun _ => ?_) (fun q9 => absurd q9 (by decide +kernel))
  subst ey_4
  subst ey_3
  subst ey_2
  subst ey_1
  exact k_rv B hP hD hS dX7_put_39 () [0, 1] rfl rfl (Nat.le_of_ble_eq_true rfl) (Nat.le_of_ble_eq_true rfl) trivial
