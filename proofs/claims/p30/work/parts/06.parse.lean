/-! parse: what the model's reader of sums and tests keeps: frames, operators that wait, the depth of the code -/
def rkz (x : Int) : Int := if x = 21 then 1 else if x = 20 then 2 else if x = 22 then 3 else if x = 17 ∨ x = 18 ∨ x = 19 then 4 else if x = 10 ∨ x = 11 then 5 else 6
def gz (r : Int) : Int := if r = 1 then 1 else if r = 2 then 2 else if r = 3 then 2 else if r = 4 then 3 else if r = 5 then 4 else 5
theorem rkz_in (x : Int) : 1 ≤ rkz x ∧ rkz x ≤ 6 := by unfold rkz; (repeat' split) <;> omega
theorem gz_in (r : Int) : 1 ≤ gz r ∧ gz r ≤ 5 := by unfold gz; (repeat' split) <;> omega
theorem gz_lt {r q : Int} (h : r < q) (h1 : 1 ≤ r) (h2 : q ≤ 6) (h3 : q ≠ 3) : gz r + 1 ≤ gz q := by unfold gz; (repeat' split) <;> omega
theorem gz_3 {r : Int} (h : r ≤ 3) (h1 : 1 ≤ r) : gz r ≤ gz 3 := by unfold gz; (repeat' split) <;> omega
theorem rkz_3 {x : Int} : rkz x = 3 ↔ x = 22 := by unfold rkz; (repeat' split) <;> omega
/-- of the first n operators: those that aren't 'not', those that are -/
def bn (O : Nat → Int32) : Nat → Int
  | 0 => 0
  | n + 1 => bn O n + (if (O n).toInt = 22 then 0 else 1)
def nt (O : Nat → Int32) : Nat → Int
  | 0 => 0
  | n + 1 => nt O n + (if (O n).toInt = 22 then 1 else 0)
theorem bn_nt (O : Nat → Int32) : ∀ n, bn O n + nt O n = (n : Int)
  | 0 => rfl
  | n + 1 => by
    have h := bn_nt O n
    show bn O n + _ + (nt O n + _) = _
    split <;> (push_cast; omega)
theorem bn_in (O : Nat → Int32) : ∀ n, 0 ≤ bn O n
  | 0 => Int.le_refl _
  | n + 1 => by
    have h := bn_in O n
    show 0 ≤ bn O n + _
    split <;> omega
theorem nt_in (O : Nat → Int32) : ∀ n, 0 ≤ nt O n
  | 0 => Int.le_refl _
  | n + 1 => by
    have h := nt_in O n
    show 0 ≤ nt O n + _
    split <;> omega
theorem bn_mono (O : Nat → Int32) {a b : Nat} (h : a ≤ b) : bn O a ≤ bn O b := by
  induction b with
  | zero => have : a = 0 := by omega
            subst this; exact Int.le_refl _
  | succ b ih =>
    by_cases e : a = b + 1
    · subst e; exact Int.le_refl _
    · have q := ih (by omega)
      show _ ≤ bn O b + _
      split <;> omega
theorem bn_cong {O O' : Nat → Int32} : ∀ {n : Nat}, (∀ k, k < n → O' k = O k) → bn O' n = bn O n
  | 0, _ => rfl
  | n + 1, h => by
    show bn O' n + _ = bn O n + _
    rw [bn_cong (fun k hk => h k (by omega)), h n (by omega)]
theorem nt_cong {O O' : Nat → Int32} : ∀ {n : Nat}, (∀ k, k < n → O' k = O k) → nt O' n = nt O n
  | 0, _ => rfl
  | n + 1, h => by
    show nt O' n + _ = nt O n + _
    rw [nt_cong (fun k hk => h k (by omega)), h n (by omega)]
/-- frames of one kind among the first n -/
def fk (F : Nat → Int32) (p : Int → Bool) : Nat → Int
  | 0 => 0
  | n + 1 => fk F p n + (if p (F n).toInt then 1 else 0)
theorem fk_cong {F F' : Nat → Int32} {p : Int → Bool} : ∀ {n : Nat}, (∀ k, k < n → F' k = F k) → fk F' p n = fk F p n
  | 0, _ => rfl
  | n + 1, h => by
    show fk F' p n + _ = fk F p n + _
    rw [fk_cong (fun k hk => h k (by omega)), h n (by omega)]
theorem fk_in (F : Nat → Int32) (p : Int → Bool) : ∀ n, 0 ≤ fk F p n ∧ fk F p n ≤ n
  | 0 => ⟨Int.le_refl _, Int.le_refl _⟩
  | n + 1 => by
    have h := fk_in F p n
    show 0 ≤ fk F p n + _ ∧ fk F p n + _ ≤ _
    split <;> (push_cast; omega)
def isF (x : Int) : Bool := x == 4
def isP (x : Int) : Bool := x == 3 || x == 4
/-- the frames' places among the operators; ranks; what is open. P: phases, G: at the begin of a fact, B: bases, O: operators; d frames, m operators, o open -/
def PI (P G B O : Nat → Int32) (d m : Nat) (o : Int) : Prop :=
  1 ≤ d ∧ (B 0).toInt = 0 ∧ (∀ j, j + 1 < d → (B j).toInt ≤ (B (j + 1)).toInt) ∧ (B (d - 1)).toInt ≤ (m : Int) ∧
  nt O m + ((d : Int) - 1) = o ∧ o ≤ 7 ∧
  (∀ j, j < d → bn O (B j).toInt.toNat ≤ 5 * (j : Int)) ∧
  (∀ j k : Nat, j < d → (B j).toInt ≤ (k : Int) → k < m → (j + 1 < d → (k : Int) < (B (j + 1)).toInt) →
    bn O (k + 1) ≤ bn O (B j).toInt.toNat + gz (rkz (O k).toInt) ∧ ((P j).toInt = 0 → rkz (O k).toInt ≠ 4) ∧
    (k + 1 < m → (j + 1 < d → ((k + 1 : Nat) : Int) < (B (j + 1)).toInt) → rkz (O k).toInt ≤ rkz (O (k + 1)).toInt)) ∧
  (∀ j, j < d → ¬ (G j).toInt = 0 → j + 1 = d ∧ ((B j).toInt = (m : Int) ∨ (1 ≤ m ∧ rkz (O (m - 1)).toInt ≤ 3)))
theorem PI_b0 {P G B O : Nat → Int32} {d m : Nat} {o : Int} (h : PI P G B O d m o) : ∀ j, j < d → 0 ≤ (B j).toInt := by
  obtain ⟨h1, h2, h3, -⟩ := h
  intro j
  induction j with
  | zero => intro _; omega
  | succ j ih => intro hj; have := ih (by omega); have := h3 j hj; omega
theorem PI_mono {P G B O : Nat → Int32} {d m : Nat} {o : Int} (h : PI P G B O d m o) : ∀ j, j < d → (B j).toInt ≤ (B (d - 1)).toInt := by
  obtain ⟨h1, h2, h3, -⟩ := h
  intro j hj
  obtain ⟨n, hn⟩ : ∃ n, d - 1 = j + n := ⟨d - 1 - j, by omega⟩
  rw [hn]
  have key : ∀ n, j + n < d → (B j).toInt ≤ (B (j + n)).toInt := by
    intro n
    induction n with
    | zero => intro _; exact Int.le_refl _
    | succ n ih => intro q; have := ih (by omega); have := h3 (j + n) (by omega); rw [show j + (n + 1) = j + n + 1 by omega]; omega
  exact key n (by omega)
/-- how many there are at most -/
theorem PI_bn {P G B O : Nat → Int32} {d m : Nat} {o : Int} (h : PI P G B O d m o) : bn O m ≤ 5 * (d : Int) := by
  obtain ⟨h1, h2, h3, h4, h5, h6, h7, h8, h9⟩ := id h
  have b0 := PI_b0 h (d - 1) (by omega)
  have q7 := h7 (d - 1) (by omega)
  have e : ((d - 1 : Nat) : Int) = (d : Int) - 1 := by omega
  rw [e] at q7
  by_cases c : (B (d - 1)).toInt = (m : Int)
  · rw [c] at q7
    have : ((m : Int)).toNat = m := by omega
    rw [this] at q7
    omega
  · have hm : 1 ≤ m := by omega
    have q8 := (h8 (d - 1) (m - 1) (by omega) (by omega) (by omega) (fun q => by omega)).1
    rw [show m - 1 + 1 = m by omega] at q8
    have g := gz_in (rkz (O (m - 1)).toInt)
    omega
theorem PI_room {P G B O : Nat → Int32} {d m : Nat} {o : Int} (h : PI P G B O d m o) : d ≤ 8 ∧ m ≤ 47 ∧ (d : Int) - 1 ≤ o := by
  have q := PI_bn h
  obtain ⟨h1, h2, h3, h4, h5, h6, -⟩ := id h
  have s := bn_nt O m
  have n := nt_in O m
  omega
theorem PI_first {P G B O : Nat → Int32} (hB : (B 0).toInt = 0) : PI P G B O 1 0 0 := by
  refine ⟨Nat.le_refl _, hB, fun j hj => by omega, by rw [hB]; exact Int.le_refl _, rfl, by decide, fun j hj => ?_, fun j k hj h1 h2 => by omega, fun j hj hg => ?_⟩
  · obtain rfl : j = 0 := by omega
    rw [hB]; exact Int.le_refl _
  · obtain rfl : j = 0 := by omega
    exact ⟨rfl, Or.inl hB⟩
/-- the last operator goes -/
theorem PI_pop {P G B O : Nat → Int32} {d m : Nat} {o : Int} (h : PI P G B O d (m + 1) o) (hb : (B (d - 1)).toInt < ((m + 1 : Nat) : Int)) (hg : (G (d - 1)).toInt = 0) : PI P G B O d m (o - (if (O m).toInt = 22 then 1 else 0)) := by
  obtain ⟨h1, h2, h3, h4, h5, h6, h7, h8, h9⟩ := id h
  refine ⟨h1, h2, h3, by omega, ?_, ?_, h7, fun j k hj q1 q2 q3 => ?_, fun j hj q => ?_⟩
  · have : nt O (m + 1) = nt O m + (if (O m).toInt = 22 then 1 else 0) := rfl
    rw [this] at h5
    split <;> simp_all <;> omega
  · split <;> omega
  · obtain ⟨r1, r2, r3⟩ := h8 j k hj q1 (by omega) q3
    exact ⟨r1, r2, fun s1 s2 => r3 (by omega) s2⟩
  · exfalso
    have := (h9 j hj q).1
    have e : j = d - 1 := by omega
    subst e; exact q hg
/-- all ranks of the last frame are no greater than its last one's -/
theorem PI_top {P G B O : Nat → Int32} {d m : Nat} {o : Int} (h : PI P G B O d (m + 1) o) : ∀ k : Nat, (B (d - 1)).toInt ≤ (k : Int) → k ≤ m → rkz (O k).toInt ≤ rkz (O m).toInt := by
  obtain ⟨h1, h2, h3, h4, h5, h6, h7, h8, h9⟩ := id h
  intro k hk hm
  obtain ⟨n, rfl⟩ : ∃ n, m = k + n := ⟨m - k, by omega⟩
  have key : ∀ n', k + n' ≤ k + n → rkz (O k).toInt ≤ rkz (O (k + n')).toInt := by
    intro n'
    induction n' with
    | zero => intro _; exact Int.le_refl _
    | succ n' ih =>
      intro q
      have a := ih (by omega)
      have b := (h8 (d - 1) (k + n') (by omega) (by omega) (by omega) (fun q => by omega)).2.2 (by omega) (fun q => by omega)
      rw [show k + (n' + 1) = k + n' + 1 by omega]
      omega
  exact key n (Nat.le_refl _)
/-- an operator more, behind such as have a lower rank -/
theorem PI_push {P P' G G' B O O' : Nat → Int32} {d m : Nat} {o : Int} (h : PI P G B O d m o) (hO : ∀ k, k < m → O' k = O k) (ho : o + (if (O' m).toInt = 22 then 1 else 0) ≤ 7)
    (ht : (B (d - 1)).toInt = (m : Int) ∨ (1 ≤ m ∧ (rkz (O (m - 1)).toInt < rkz (O' m).toInt ∨ ((O' m).toInt = 22 ∧ rkz (O (m - 1)).toInt ≤ 3))))
    (hP : ∀ j, j + 1 < d → (P' j).toInt = 0 → (P j).toInt = 0)
    (hP0 : (P' (d - 1)).toInt = 0 → rkz (O' m).toInt ≠ 4 ∧ ((P (d - 1)).toInt = 0 ∨ rkz (O' m).toInt ≤ 3))
    (hG : ∀ j, j < d → ¬ (G' j).toInt = 0 → j + 1 = d ∧ rkz (O' m).toInt ≤ 3) : PI P' G' B O' d (m + 1) (o + (if (O' m).toInt = 22 then 1 else 0)) := by
  have hb0 := PI_b0 h
  have hmo := PI_mono h
  obtain ⟨h1, h2, h3, h4, h5, h6, h7, h8, h9⟩ := id h
  have rk := rkz_in (O' m).toInt
  have hBm : ∀ j, j < d → (B j).toInt.toNat ≤ m := fun j hj => by have := hmo j hj; have := hb0 j hj; omega
  have hbn : ∀ j, j < d → bn O' (B j).toInt.toNat = bn O (B j).toInt.toNat := fun j hj => bn_cong fun k hk => hO k (by have := hBm j hj; omega)
  -- the count behind the new one
  have hcnt : bn O' (m + 1) ≤ bn O (B (d - 1)).toInt.toNat + gz (rkz (O' m).toInt) := by
    have e : bn O' (m + 1) = bn O m + (if (O' m).toInt = 22 then 0 else 1) := by
      show bn O' m + _ = _
      rw [bn_cong hO]
    rw [e]
    have g1 := gz_in (rkz (O' m).toInt)
    rcases ht with c | ⟨c0, c⟩
    · rw [c, show ((m : Int)).toNat = m by omega]
      split <;> omega
    · by_cases cb : (B (d - 1)).toInt = (m : Int)
      · rw [cb, show ((m : Int)).toNat = m by omega]
        split <;> omega
      · have q8 := (h8 (d - 1) (m - 1) (by omega) (by omega) (by omega) (fun q => by omega)).1
        rw [show m - 1 + 1 = m by omega] at q8
        have r1 := rkz_in (O (m - 1)).toInt
        rcases c with c | ⟨c1, c2⟩
        · split
          · next c22 =>
            have e3 : rkz (O' m).toInt = 3 := rkz_3.mpr c22
            rw [e3] at c ⊢
            have := gz_3 (r := rkz (O (m - 1)).toInt) (by omega) r1.1
            omega
          · next c22 =>
            have e3 : rkz (O' m).toInt ≠ 3 := fun q => c22 (rkz_3.mp q)
            have := gz_lt c r1.1 rk.2 e3
            omega
        · rw [if_pos c1]
          have e3 : rkz (O' m).toInt = 3 := rkz_3.mpr c1
          rw [e3]
          have := gz_3 c2 r1.1
          omega
  -- ranks of the last frame, if the new one is a low one
  have hlow : ∀ k : Nat, (B (d - 1)).toInt ≤ (k : Int) → k < m → rkz (O k).toInt ≤ rkz (O' m).toInt := by
    intro k k1 k2
    obtain ⟨m', rfl⟩ : ∃ m', m = m' + 1 := ⟨m - 1, by omega⟩
    have a := PI_top h k k1 (by omega)
    rcases ht with c | ⟨-, c⟩
    · omega
    · rw [show m' + 1 - 1 = m' by omega] at c
      rcases c with c | ⟨c1, c2⟩
      · omega
      · have e3 := rkz_3.mpr c1
        omega
  refine ⟨h1, h2, h3, by omega, ?_, ho, fun j hj => by rw [hbn j hj]; exact h7 j hj, fun j k hj q1 q2 q3 => ?_, fun j hj q => ?_⟩
  · have e : nt O' (m + 1) = nt O m + (if (O' m).toInt = 22 then 1 else 0) := by
      show nt O' m + _ = _
      rw [nt_cong hO]
    rw [e]
    split <;> simp_all <;> omega
  · by_cases ck : k = m
    · subst ck
      have ej : j = d - 1 := by
        by_cases cj : j + 1 < d
        · have := q3 cj
          have := hmo (j + 1) cj
          omega
        · omega
      subst ej
      refine ⟨by rw [hbn _ hj]; exact hcnt, fun p => (hP0 p).1, fun s => by omega⟩
    · have km : k < m := by omega
      obtain ⟨r1, r2, r3⟩ := h8 j k hj q1 km q3
      rw [hO k km]
      refine ⟨?_, fun p => ?_, fun s1 s2 => ?_⟩
      · rw [hbn j hj, bn_cong (n := k + 1) (fun i hi => hO i (by omega))]; exact r1
      · by_cases cj : j + 1 < d
        · exact r2 (hP j cj p)
        · have ej : j = d - 1 := by omega
          subst ej
          rcases (hP0 p).2 with z | z
          · exact r2 z
          · have := hlow k q1 km
            omega
      · by_cases ck1 : k + 1 = m
        · have ej : j = d - 1 := by
            by_cases cj : j + 1 < d
            · have := s2 cj
              have := hmo (j + 1) cj
              omega
            · omega
          subst ej
          rw [ck1]
          exact hlow k q1 km
        · rw [hO (k + 1) (by omega)]
          exact r3 (by omega) s2
  · obtain ⟨g1, g2⟩ := hG j hj q
    exact ⟨g1, Or.inr ⟨by omega, by rw [show m + 1 - 1 = m by omega]; exact g2⟩⟩
/-- a frame more -/
theorem PI_frame {P P' G G' B B' O : Nat → Int32} {d m : Nat} {o : Int} (h : PI P G B O d m o) (ho : o + 1 ≤ 7) (hB : ∀ j, j < d → B' j = B j) (hBd : (B' d).toInt = (m : Int)) (hP : ∀ j, j < d → P' j = P j) (hG : ∀ j, j < d → (G' j).toInt = 0) : PI P' G' B' O (d + 1) m (o + 1) := by
  have q := PI_bn h
  have hmo := PI_mono h
  obtain ⟨h1, h2, h3, h4, h5, h6, h7, h8, h9⟩ := id h
  refine ⟨by omega, by rw [hB 0 (by omega)]; exact h2, fun j hj => ?_, by rw [show d + 1 - 1 = d by omega, hBd]; exact Int.le_refl _, by omega, ho, fun j hj => ?_, fun j k hj q1 q2 q3 => ?_, fun j hj g => ?_⟩
  · by_cases c : j + 1 < d
    · rw [hB j (by omega), hB (j + 1) c]; exact h3 j c
    · have e : j + 1 = d := by omega
      rw [hB j (by omega), e, hBd]
      have := hmo j (by omega)
      omega
  · by_cases c : j < d
    · rw [hB j c]; exact h7 j c
    · have e : j = d := by omega
      rw [e, hBd, show ((m : Int)).toNat = m by omega]; exact q
  · by_cases c : j < d
    · rw [hB j c] at q1 ⊢
      rw [hP j c]
      have q3' : j + 1 < d → (k : Int) < (B (j + 1)).toInt := fun z => by rw [← hB (j + 1) z]; exact q3 (by omega)
      obtain ⟨r1, r2, r3⟩ := h8 j k c q1 q2 q3'
      refine ⟨r1, r2, fun s1 s2 => r3 s1 fun z => ?_⟩
      rw [← hB (j + 1) z]; exact s2 (by omega)
    · have e : j = d := by omega
      rw [e, hBd] at q1
      omega
  · by_cases c : j < d
    · exact absurd (hG j c) g
    · have e : j = d := by omega
      subst e
      exact ⟨rfl, Or.inl hBd⟩
/-- the last frame goes, with no operator left in it -/
theorem PI_close {P P' G B O : Nat → Int32} {d m : Nat} {o : Int} (h : PI P G B O (d + 1) m o) (hd : 1 ≤ d) (hm : (B d).toInt = (m : Int)) (hP : ∀ j, j < d → (P' j).toInt = 0 → (P j).toInt = 0) : PI P' G B O d m (o - 1) := by
  have hmo := PI_mono h
  obtain ⟨h1, h2, h3, h4, h5, h6, h7, h8, h9⟩ := id h
  refine ⟨hd, h2, fun j hj => h3 j (by omega), ?_, by push_cast at h5; omega, by omega, fun j hj => h7 j (by omega), fun j k hj q1 q2 q3 => ?_, fun j hj g => ?_⟩
  · have := h3 (d - 1) (by omega)
    rw [show d - 1 + 1 = d by omega] at this
    omega
  · have q3' : j + 1 < d + 1 → (k : Int) < (B (j + 1)).toInt := fun _ => by
      by_cases c : j + 1 < d
      · exact q3 c
      · rw [show j + 1 = d by omega]; omega
    obtain ⟨r1, r2, r3⟩ := h8 j k (by omega) q1 q2 q3'
    refine ⟨r1, fun p => r2 (hP j hj p), fun s1 s2 => r3 s1 fun _ => ?_⟩
    by_cases c : j + 1 < d
    · exact s2 c
    · rw [show j + 1 = d by omega]; omega
  · have := (h9 j (by omega) g).1
    omega
/-- phases that aren't 0 any more, facts that have begun -/
theorem PI_phase {P P' G G' B O : Nat → Int32} {d m : Nat} {o : Int} (h : PI P G B O d m o) (hP : ∀ j, j < d → (P' j).toInt = 0 → (P j).toInt = 0) (hG : ∀ j, j < d → ¬ (G' j).toInt = 0 → ¬ (G j).toInt = 0) : PI P' G' B O d m o := by
  obtain ⟨h1, h2, h3, h4, h5, h6, h7, h8, h9⟩ := id h
  exact ⟨h1, h2, h3, h4, h5, h6, h7, fun j k hj q1 q2 q3 => by
    obtain ⟨r1, r2, r3⟩ := h8 j k hj q1 q2 q3
    exact ⟨r1, fun p => r2 (hP j hj p), r3⟩, fun j hj g => h9 j hj (hG j hj g)⟩
/-- the depth of a code: parts ahead of what joins them -/
def dpz (C : Nat → Int32) (a : Nat) : Nat → Option Nat
  | 0 => some 0
  | n + 1 => match dpz C a n with
    | none => none
    | some q => if (C (a + n)).toInt ≤ 9 then (if q < 400 then some (q + 1) else none) else if (C (a + n)).toInt = 22 then (if 1 ≤ q then some q else none) else (if 2 ≤ q then some (q - 1) else none)
theorem dpz_cong {C C' : Nat → Int32} {a : Nat} : ∀ {n : Nat}, (∀ k, k < n → C' (a + k) = C (a + k)) → dpz C' a n = dpz C a n
  | 0, _ => rfl
  | n + 1, h => by
    have e : dpz C' a n = dpz C a n := dpz_cong (fun k hk => h k (by omega))
    unfold dpz
    rw [e, h n (by omega)]
theorem dpz_part {C C' : Nat → Int32} {a n q : Nat} (h : dpz C a n = some q) (hc : ∀ k, k < n → C' (a + k) = C (a + k)) (hs : (C' (a + n)).toInt ≤ 9) (hq : q < 400) : dpz C' a (n + 1) = some (q + 1) := by
  show (match dpz C' a n with | none => none | some q => _) = _
  rw [dpz_cong hc, h]
  simp [hs, hq]
theorem dpz_not {C C' : Nat → Int32} {a n q : Nat} (h : dpz C a n = some q) (hc : ∀ k, k < n → C' (a + k) = C (a + k)) (hs : (C' (a + n)).toInt = 22) (hq : 1 ≤ q) : dpz C' a (n + 1) = some q := by
  show (match dpz C' a n with | none => none | some q => _) = _
  rw [dpz_cong hc, h]
  have c1 : ¬ (C' (a + n)).toInt ≤ 9 := by omega
  simp only [if_neg c1, if_pos hs, if_pos hq]
theorem dpz_two {C C' : Nat → Int32} {a n q : Nat} (h : dpz C a n = some (q + 1)) (hc : ∀ k, k < n → C' (a + k) = C (a + k)) (hs : 9 < (C' (a + n)).toInt) (hs2 : (C' (a + n)).toInt ≠ 22) (hq : 1 ≤ q) : dpz C' a (n + 1) = some q := by
  show (match dpz C' a n with | none => none | some q => _) = _
  rw [dpz_cong hc, h]
  have c1 : ¬ (C' (a + n)).toInt ≤ 9 := by omega
  simp only [if_neg c1, if_neg hs2, if_pos (show 2 ≤ q + 1 by omega)]
  rfl
