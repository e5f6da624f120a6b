theorem k_arrT {s : State} {args : Array Value} {ty : FieldType} (h : (Cond.arrayClass ty).before args s = true) (hr : ∀ cA : ClassId, s.vm.findClass ("[" ++ ty.toString) = some cA → va_RA s cA ty) : ∃ cA : ClassId, ArrOfT s cA ty ∧ va_RA s cA ty := by
  obtain ⟨cA, kA, comp, h1, h2, h3⟩ := Cond.arrayClass_spec h
  exact ⟨cA, fun n z => ⟨fun k h => (by cases h), kA, h2, comp, h3⟩, hr cA h1⟩
theorem k_arrO {s : State} {C : String} (h : va_AO C s) : ∃ cA : ClassId, ArrOfT s cA (.object C) ∧ va_RA s cA (.object C) := by
  obtain ⟨comp, cA, kA, h1, -, h3, h4, h5⟩ := Cond.arrayOver_spec h
  exact ⟨cA, fun n z => ⟨fun k h => (by cases h), kA, h3, comp, h4⟩, kA, comp, h3, h4, h1, h5⟩
def tmS : Nat → Term := fun _ => Term.string "WishSea$Reader" 30
set_option maxRecDepth 100000 in
theorem k_bytes (j : Nat) (hj : j < lenS.getD 0 0) : (Cond.eq (.elem (.field (.string "WishSea$Reader" 30) "java/lang/String" "value" "[B") (.int (Int32.ofNat j))) (.int ((bytS.getD 0 []).getD j 0))) ∈ flatC (Jvm.Cond.and given_1 narrow_1) := by
  revert hj
  revert j
  decide +kernel
set_option maxHeartbeats 8000000 in
set_option maxRecDepth 100000 in
theorem k_start {p : Program} {e : Env} {s : State} {m : MethodId} {below : List Frame} {meth : Method} {c : Code} (l : Launch) {b L : Nat} {xs : Nat → Int32} (hL : L ≤ 3072) (C0 : lw_At p s m meth c b L xs) : W p l e room_1 s m #[Value.ref b] below meth c s.heap [] 0 0 (lw_Z below #[Value.ref b] s) (entryFrame m ([Value.ref b] : List Value).toArray 4) := by
  obtain ⟨hx, hb, hr, hml, hown, hts, hX, hbl, hlocks, hgv⟩ := id C0
  obtain ⟨c0, iS0, hKn0⟩ := u_known (C := RX0) (T := TX0) (N := 4) (n := 4) hts in_wsX00 (hts (.instantiable RX0 4) (tb1 (List.mem_of_getElem? (i := 223) rfl)))
  obtain ⟨c1, iS1, hKn1⟩ := u_known (C := RX1) (T := TX1) (N := 6) (n := 6) hts in_wsX10 (hts (.instantiable RX1 6) (tb2 (List.mem_of_getElem? (i := 14) rfl)))
  obtain ⟨c2, iS2, hKn2⟩ := u_known (C := RX2) (T := TX2) (N := 11) (n := 11) hts in_wsX20 (hts (.instantiable RX2 11) (tb1 (List.mem_of_getElem? (i := 129) rfl)))
  obtain ⟨c3, iS3, hKn3⟩ := u_known (C := RX3) (T := TX3) (N := 7) (n := 7) hts in_wsX30 (hts (.instantiable RX3 7) (tb2 (List.mem_of_getElem? (i := 43) rfl)))
  obtain ⟨c4, iS4, hKn4⟩ := u_known (C := RX4) (T := TX4) (N := 6) (n := 6) hts in_wsX40 (hts (.instantiable RX4 6) (tb4 (List.mem_of_getElem? (i := 81) rfl)))
  obtain ⟨c5, iS5, hKn5⟩ := u_known (C := RX5) (T := TX5) (N := 20) (n := 20) hts in_wsX50 (hts (.instantiable RX5 20) (tb1 (List.mem_of_getElem? (i := 25) rfl)))
  obtain ⟨c6, iS6, hKn6⟩ := u_known (C := RX6) (T := TX6) (N := 17) (n := 17) hts in_wsX60 (hts (.instantiable RX6 17) (tb1 (List.mem_of_getElem? (i := 17) rfl)))
  obtain ⟨c7, iS7, hKn7⟩ := u_known (C := RX7) (T := TX7) (N := 92) (n := 92) hts in_wsX70 (hts (.instantiable RX7 92) (tb5 (List.mem_of_getElem? (i := 59) rfl)))
  obtain ⟨cI, hAcI, hRcI⟩ := k_arrT (hts (.arrayClass .int) (tb1 (List.mem_of_getElem? (i := 127) rfl))) (fun cA h => h)
  obtain ⟨cJ, hAcJ, hRcJ⟩ := k_arrT (hts (.arrayClass .long) (tb1 (List.mem_of_getElem? (i := 220) rfl))) (fun cA h => h)
  obtain ⟨cZ, hAcZ, hRcZ⟩ := k_arrT (hts (.arrayClass .boolean) (tb2 (List.mem_of_getElem? (i := 74) rfl))) (fun cA h => h)
  have hao : va_AO "WishSea$Moment" s := va_AO.of (hts (.arrayOver (.object "WishSea$Moment")) (tb2 (List.mem_of_getElem? (i := 20) rfl)))
  obtain ⟨cM, hAcM, hRcM⟩ := k_arrO hao
  have hs := flat_of_before _ hgv
  have hAo : ∀ a : Nat, a < s.heap.size → ¬ (fun q : Nat => s.heap.size ≤ q) a := fun a h => Nat.not_le.mpr h
  have hle : ∀ i : Nat, i < 1 → (Cond.eq (.length (.field (tmS i) "java/lang/String" "value" "[B")) (.int (Int32.ofNat (lenS.getD i 0)))).before #[Value.ref b] s = true := by
    intro i hi
    obtain rfl : i = 0 := by omega
    exact hs (Cond.eq (.length (.field (.string "WishSea$Reader" 30) "java/lang/String" "value" "[B")) (.int 128)) (by decide +kernel)
  have hel : ∀ i : Nat, i < 1 → ∀ j : Nat, j < lenS.getD i 0 → (Cond.eq (.elem (.field (tmS i) "java/lang/String" "value" "[B") (.int (Int32.ofNat j))) (.int ((bytS.getD i []).getD j 0))).before #[Value.ref b] s = true := by
    intro i hi j hj
    obtain rfl : i = 0 := by omega
    exact hs _ (k_bytes j hj)
  obtain ⟨adK, adV, hE, hEv⟩ := vk_Sof (args := #[Value.ref b]) (s := s) (N := 1) (tm := tmS) (len := lenS) (byt := bytS) (A := (fun q : Nat => s.heap.size ≤ q)) (by decide +kernel) (fun i _ => hs (Cond.exactly (.string "WishSea$Reader" 30) "java/lang/String") (by decide +kernel)) (fun i _ => hs (Cond.eq (.field (.string "WishSea$Reader" 30) "java/lang/String" "coder" "B") (.int 0)) (by decide +kernel)) (fun i _ => hs (Cond.arrayOf (.field (.string "WishSea$Reader" 30) "java/lang/String" "value" "[B") .byte) (by decide +kernel)) hle hel (fun i j hi hj hn => absurd (show i = j by omega) hn) hAo
  have hstr : vk_R RX2 30 strS (adK 0) s := vk_R.of (A := #[Value.ref b]) (hts (.stringRef RX2 30 strS) (tb1 (List.mem_of_getElem? (i := 134) rfl))) (hEv 0 (by decide))
  have hz1 : va_Z "java/lang/String" "COMPACT_STRINGS" "Z" (.int 1) (fun q : Nat => s.heap.size ≤ q) s s.heap := va_Zof (args := #[Value.ref b]) (hts (.laysStatic "java/lang/String" "COMPACT_STRINGS" "Z") (tb1 (List.mem_of_getElem? (i := 144) rfl))) (hts (.initialized "java/lang/String") (tb1 (List.mem_of_getElem? (i := 4) rfl))) (va_eqt (hs (Cond.eq (.static "java/lang/String" "COMPACT_STRINGS" "Z") (.int 1)) (by decide +kernel))) hAo
  have hz2 : va_Zq "jdk/internal/util/Preconditions" "SIOOBE_FORMATTER" "Ljava/util/function/BiFunction;" (fun q : Nat => s.heap.size ≤ q) s s.heap := va_Zqof (args := #[Value.ref b]) (hts (.laysStatic "jdk/internal/util/Preconditions" "SIOOBE_FORMATTER" "Ljava/util/function/BiFunction;") (tb1 (List.mem_of_getElem? (i := 160) rfl))) (hts (.initialized "jdk/internal/util/Preconditions") (tb1 (List.mem_of_getElem? (i := 6) rfl))) (hs (Cond.isRef (.static "jdk/internal/util/Preconditions" "SIOOBE_FORMATTER" "Ljava/util/function/BiFunction;")) (by decide +kernel)) hAo
  obtain ⟨dC, hdC⟩ : ∃ dC : Nat → ClassId, dC = fun k => match k with | 0 => c0 | 1 => c1 | 2 => c2 | 3 => c3 | 4 => c4 | 5 => c5 | 6 => c6 | _ => c7 := ⟨_, rfl⟩
  obtain ⟨dI, hdI⟩ : ∃ dI : Nat → Nat → Nat, dI = fun k => match k with | 0 => iS0 | 1 => iS1 | 2 => iS2 | 3 => iS3 | 4 => iS4 | 5 => iS5 | 6 => iS6 | 1000 => adK | 1001 => adV | _ => iS7 := ⟨_, rfl⟩
  have hK : va_K (dC, dI) vwCl (tyy cI cJ cZ cM) s := by
    refine ⟨fun k q hq => ?_, fun k q hq => ?_⟩
    · subst hdC; subst hdI
      match k, hq with
      | 0, hq => cases hq; exact hKn0
      | 1, hq => cases hq; exact hKn1
      | 2, hq => cases hq; exact hKn2
      | 3, hq => cases hq; exact hKn3
      | 4, hq => cases hq; exact hKn4
      | 5, hq => cases hq; exact hKn5
      | 6, hq => cases hq; exact hKn6
      | 7, hq => cases hq; exact hKn7
      | k + 8, hq => simp [vwCl] at hq
    · match k, hq with
      | 0, hq => cases hq; exact ⟨hAcI, hRcI⟩
      | 1, hq => cases hq; exact ⟨hAcJ, hRcJ⟩
      | 2, hq => cases hq; exact ⟨hAcZ, hRcZ⟩
      | 3, hq => cases hq; exact ⟨hAcM, hRcM⟩
      | k + 4, hq => simp [tyy] at hq
  have hN : k_N s := by
    refine ⟨fun q hq => ?_, fun C hC => ?_⟩
    · simp only [nlk, List.mem_cons, List.not_mem_nil, or_false] at hq
      rcases hq with rfl | rfl | rfl | rfl | rfl
      · exact va_Nw.of rfl (hts (.methodLinkNest RX6 15 yX5_init "WishSea") (tb1 (List.mem_of_getElem? (i := 26) rfl)))
      · exact va_Nw.of rfl (hts (.methodLinkNest RX6 34 yX0_init "WishSea") (tb1 (List.mem_of_getElem? (i := 224) rfl)))
      · exact va_Nw.of rfl (hts (.methodLinkNest RX1 24 yX0_init "WishSea") (tb2 (List.mem_of_getElem? (i := 21) rfl)))
      · exact va_Nw.of rfl (hts (.methodLinkNest RX3 27 yX0_init "WishSea") (tb2 (List.mem_of_getElem? (i := 49) rfl)))
      · exact va_Nw.of rfl (hts (.methodLinkNest RX4 17 yX0_init "WishSea") (tb4 (List.mem_of_getElem? (i := 87) rfl)))
    · simp only [aol, List.mem_cons, List.not_mem_nil, or_false] at hC
      subst hC; exact hao
  have hC : k_C (dC, dI) (fun q : Nat => s.heap.size ≤ q) s s.heap := by
    subst hdI; exact ⟨hE, hstr, hz1, hz2⟩
  have hl := lv_entry ([.ref b]) (n := 4) (Nat.le_of_ble_eq_true rfl)
  rw [lg_entry_eq]
  exact law_entry hL C0 hK hN hC s.heap [] va_S.rf _ hl
