/-! the reference's reader of SUMS and TESTS: its frames as a list -/
theorem LSw_0 {t : Nat → Int32} {n : Nat} {sg sa se vl lx : Int32} {wd : Int64} (h : LSG t n sg sa se vl lx wd) (ht : aR t 0 255) : decide (sg = 1 ∧ wd = 499967946343) = tq t n sa.toNatClampNeg 300 := by
  have q := LS_w h ht (i := 0) (by decide)
  rw [show owC 0 = 499967946343 by decide +kernel, show nI (300 + 0) = 300 by decide] at q
  exact q
theorem LSw_1 {t : Nat → Int32} {n : Nat} {sg sa se vl lx : Int32} {wd : Int64} (h : LSG t n sg sa se vl lx wd) (ht : aR t 0 255) : decide (sg = 1 ∧ wd = 512970880104) = tq t n sa.toNatClampNeg 301 := by
  have q := LS_w h ht (i := 1) (by decide)
  rw [show owC 1 = 512970880104 by decide +kernel, show nI (300 + 1) = 301 by decide] at q
  exact q
theorem LSw_2 {t : Nat → Int32} {n : Nat} {sg sa se vl lx : Int32} {wd : Int64} (h : LSG t n sg sa se vl lx wd) (ht : aR t 0 255) : decide (sg = 1 ∧ wd = 125793039377779) = tq t n sa.toNatClampNeg 302 := by
  have q := LS_w h ht (i := 2) (by decide)
  rw [show owC 2 = 125793039377779 by decide +kernel, show nI (300 + 2) = 302 by decide] at q
  exact q
theorem LSw_3 {t : Nat → Int32} {n : Nat} {sg sa se vl lx : Int32} {wd : Int64} (h : LSG t n sg sa se vl lx wd) (ht : aR t 0 255) : decide (sg = 1 ∧ wd = 422826304870) = tq t n sa.toNatClampNeg 303 := by
  have q := LS_w h ht (i := 3) (by decide)
  rw [show owC 3 = 422826304870 by decide +kernel, show nI (300 + 3) = 303 by decide] at q
  exact q
theorem LSw_4 {t : Nat → Int32} {n : Nat} {sg sa se vl lx : Int32} {wd : Int64} (h : LSG t n sg sa se vl lx wd) (ht : aR t 0 255) : decide (sg = 1 ∧ wd = 2003399528) = tq t n sa.toNatClampNeg 304 := by
  have q := LS_w h ht (i := 4) (by decide)
  rw [show owC 4 = 2003399528 by decide +kernel, show nI (300 + 4) = 304 by decide] at q
  exact q
theorem LSw_5 {t : Nat → Int32} {n : Nat} {sg sa se vl lx : Int32} {wd : Int64} (h : LSG t n sg sa se vl lx wd) (ht : aR t 0 255) : decide (sg = 1 ∧ wd = 512970876019) = tq t n sa.toNatClampNeg 305 := by
  have q := LS_w h ht (i := 5) (by decide)
  rw [show owC 5 = 512970876019 by decide +kernel, show nI (300 + 5) = 305 by decide] at q
  exact q
theorem LSw_6 {t : Nat → Int32} {n : Nat} {sg sa se vl lx : Int32} {wd : Int64} (h : LSG t n sg sa se vl lx wd) (ht : aR t 0 255) : decide (sg = 1 ∧ wd = 444150998387) = tq t n sa.toNatClampNeg 306 := by
  have q := LS_w h ht (i := 6) (by decide)
  rw [show owC 6 = 444150998387 by decide +kernel, show nI (300 + 6) = 306 by decide] at q
  exact q
theorem LSw_7 {t : Nat → Int32} {n : Nat} {sg sa se vl lx : Int32} {wd : Int64} (h : LSG t n sg sa se vl lx wd) (ht : aR t 0 255) : decide (sg = 1 ∧ wd = 474147546227) = tq t n sa.toNatClampNeg 307 := by
  have q := LS_w h ht (i := 7) (by decide)
  rw [show owC 7 = 474147546227 by decide +kernel, show nI (300 + 7) = 307 by decide] at q
  exact q
theorem LSw_8 {t : Nat → Int32} {n : Nat} {sg sa se vl lx : Int32} {wd : Int64} (h : LSG t n sg sa se vl lx wd) (ht : aR t 0 255) : decide (sg = 1 ∧ wd = 1970496883) = tq t n sa.toNatClampNeg 308 := by
  have q := LS_w h ht (i := 8) (by decide)
  rw [show owC 8 = 1970496883 by decide +kernel, show nI (300 + 8) = 308 by decide] at q
  exact q
theorem LSw_9 {t : Nat → Int32} {n : Nat} {sg sa se vl lx : Int32} {wd : Int64} (h : LSG t n sg sa se vl lx wd) (ht : aR t 0 255) : decide (sg = 1 ∧ wd = 439855772532) = tq t n sa.toNatClampNeg 309 := by
  have q := LS_w h ht (i := 9) (by decide)
  rw [show owC 9 = 439855772532 by decide +kernel, show nI (300 + 9) = 309 by decide] at q
  exact q
theorem LSw_10 {t : Nat → Int32} {n : Nat} {sg sa se vl lx : Int32} {wd : Int64} (h : LSG t n sg sa se vl lx wd) (ht : aR t 0 255) : decide (sg = 1 ∧ wd = 1684107883) = tq t n sa.toNatClampNeg 310 := by
  have q := LS_w h ht (i := 10) (by decide)
  rw [show owC 10 = 1684107883 by decide +kernel, show nI (300 + 10) = 310 by decide] at q
  exact q
theorem LSw_11 {t : Nat → Int32} {n : Nat} {sg sa se vl lx : Int32} {wd : Int64} (h : LSG t n sg sa se vl lx wd) (ht : aR t 0 255) : decide (sg = 1 ∧ wd = 1919905645) = tq t n sa.toNatClampNeg 311 := by
  have q := LS_w h ht (i := 11) (by decide)
  rw [show owC 11 = 1919905645 by decide +kernel, show nI (300 + 11) = 311 by decide] at q
  exact q
theorem LSw_12 {t : Nat → Int32} {n : Nat} {sg sa se vl lx : Int32} {wd : Int64} (h : LSG t n sg sa se vl lx wd) (ht : aR t 0 255) : decide (sg = 1 ∧ wd = 27988542884245108) = tq t n sa.toNatClampNeg 312 := by
  have q := LS_w h ht (i := 12) (by decide)
  rw [show owC 12 = 27988542884245108 by decide +kernel, show nI (300 + 12) = 312 by decide] at q
  exact q
theorem LSw_13 {t : Nat → Int32} {n : Nat} {sg sa se vl lx : Int32} {wd : Int64} (h : LSG t n sg sa se vl lx wd) (ht : aR t 0 255) : decide (sg = 1 ∧ wd = 422607680115) = tq t n sa.toNatClampNeg 313 := by
  have q := LS_w h ht (i := 13) (by decide)
  rw [show owC 13 = 422607680115 by decide +kernel, show nI (300 + 13) = 313 by decide] at q
  exact q
theorem LSw_14 {t : Nat → Int32} {n : Nat} {sg sa se vl lx : Int32} {wd : Int64} (h : LSG t n sg sa se vl lx wd) (ht : aR t 0 255) : decide (sg = 1 ∧ wd = 1667329133) = tq t n sa.toNatClampNeg 314 := by
  have q := LS_w h ht (i := 14) (by decide)
  rw [show owC 14 = 1667329133 by decide +kernel, show nI (300 + 14) = 314 by decide] at q
  exact q
theorem LSw_15 {t : Nat → Int32} {n : Nat} {sg sa se vl lx : Int32} {wd : Int64} (h : LSG t n sg sa se vl lx wd) (ht : aR t 0 255) : decide (sg = 1 ∧ wd = 6840676) = tq t n sa.toNatClampNeg 315 := by
  have q := LS_w h ht (i := 15) (by decide)
  rw [show owC 15 = 6840676 by decide +kernel, show nI (300 + 15) = 315 by decide] at q
  exact q
theorem LSw_16 {t : Nat → Int32} {n : Nat} {sg sa se vl lx : Int32} {wd : Int64} (h : LSG t n sg sa se vl lx wd) (ht : aR t 0 255) : decide (sg = 1 ∧ wd = 7562593) = tq t n sa.toNatClampNeg 316 := by
  have q := LS_w h ht (i := 16) (by decide)
  rw [show owC 16 = 7562593 by decide +kernel, show nI (300 + 16) = 316 by decide] at q
  exact q
theorem LSw_17 {t : Nat → Int32} {n : Nat} {sg sa se vl lx : Int32} {wd : Int64} (h : LSG t n sg sa se vl lx wd) (ht : aR t 0 255) : decide (sg = 1 ∧ wd = 1935763812) = tq t n sa.toNatClampNeg 317 := by
  have q := LS_w h ht (i := 17) (by decide)
  rw [show owC 17 = 1935763812 by decide +kernel, show nI (300 + 17) = 317 by decide] at q
  exact q
theorem LSw_18 {t : Nat → Int32} {n : Nat} {sg sa se vl lx : Int32} {wd : Int64} (h : LSG t n sg sa se vl lx wd) (ht : aR t 0 255) : decide (sg = 1 ∧ wd = 6578553) = tq t n sa.toNatClampNeg 318 := by
  have q := LS_w h ht (i := 18) (by decide)
  rw [show owC 18 = 6578553 by decide +kernel, show nI (300 + 18) = 318 by decide] at q
  exact q
theorem LSw_19 {t : Nat → Int32} {n : Nat} {sg sa se vl lx : Int32} {wd : Int64} (h : LSG t n sg sa se vl lx wd) (ht : aR t 0 255) : decide (sg = 1 ∧ wd = 28530) = tq t n sa.toNatClampNeg 319 := by
  have q := LS_w h ht (i := 19) (by decide)
  rw [show owC 19 = 28530 by decide +kernel, show nI (300 + 19) = 319 by decide] at q
  exact q
theorem LSw_20 {t : Nat → Int32} {n : Nat} {sg sa se vl lx : Int32} {wd : Int64} (h : LSG t n sg sa se vl lx wd) (ht : aR t 0 255) : decide (sg = 1 ∧ wd = 6385252) = tq t n sa.toNatClampNeg 320 := by
  have q := LS_w h ht (i := 20) (by decide)
  rw [show owC 20 = 6385252 by decide +kernel, show nI (300 + 20) = 320 by decide] at q
  exact q
theorem LSw_21 {t : Nat → Int32} {n : Nat} {sg sa se vl lx : Int32} {wd : Int64} (h : LSG t n sg sa se vl lx wd) (ht : aR t 0 255) : decide (sg = 1 ∧ wd = 7237492) = tq t n sa.toNatClampNeg 321 := by
  have q := LS_w h ht (i := 21) (by decide)
  rw [show owC 21 = 7237492 by decide +kernel, show nI (300 + 21) = 321 by decide] at q
  exact q
theorem LSw_22 {t : Nat → Int32} {n : Nat} {sg sa se vl lx : Int32} {wd : Int64} (h : LSG t n sg sa se vl lx wd) (ht : aR t 0 255) : decide (sg = 1 ∧ wd = 6384748) = tq t n sa.toNatClampNeg 322 := by
  have q := LS_w h ht (i := 22) (by decide)
  rw [show owC 22 = 6384748 by decide +kernel, show nI (300 + 22) = 322 by decide] at q
  exact q
theorem LSw_23 {t : Nat → Int32} {n : Nat} {sg sa se vl lx : Int32} {wd : Int64} (h : LSG t n sg sa se vl lx wd) (ht : aR t 0 255) : decide (sg = 1 ∧ wd = 7170414) = tq t n sa.toNatClampNeg 323 := by
  have q := LS_w h ht (i := 23) (by decide)
  rw [show owC 23 = 7170414 by decide +kernel, show nI (300 + 23) = 323 by decide] at q
  exact q
theorem LSw_24 {t : Nat → Int32} {n : Nat} {sg sa se vl lx : Int32} {wd : Int64} (h : LSG t n sg sa se vl lx wd) (ht : aR t 0 255) : decide (sg = 1 ∧ wd = 7168376) = tq t n sa.toNatClampNeg 324 := by
  have q := LS_w h ht (i := 24) (by decide)
  rw [show owC 24 = 7168376 by decide +kernel, show nI (300 + 24) = 324 by decide] at q
  exact q
def SM (F P G B O : Nat → Int32) : Nat → List Fr
  | 0 => []
  | d + 1 => (F d, P d, G d, nt O (B d).toInt.toNat + (d : Int)) :: SM F P G B O d
theorem SM_cong {F P G B O F' P' G' B' O' : Nat → Int32} : ∀ {d : Nat}, (∀ j, j < d → F' j = F j) → (∀ j, j < d → P' j = P j) → (∀ j, j < d → G' j = G j) → (∀ j, j < d → B' j = B j) → (∀ j, j < d → nt O' (B j).toInt.toNat = nt O (B j).toInt.toNat) → SM F' P' G' B' O' d = SM F P G B O d
  | 0, _, _, _, _, _ => rfl
  | d + 1, h1, h2, h3, h4, h5 => by
    show (F' d, P' d, G' d, nt O' (B' d).toInt.toNat + (d : Int)) :: SM F' P' G' B' O' d = (F d, P d, G d, nt O (B d).toInt.toNat + (d : Int)) :: SM F P G B O d
    rw [h1 d (by omega), h2 d (by omega), h3 d (by omega), h4 d (by omega), h5 d (by omega), SM_cong (fun j q => h1 j (by omega)) (fun j q => h2 j (by omega)) (fun j q => h3 j (by omega)) (fun j q => h4 j (by omega)) (fun j q => h5 j (by omega))]
theorem nt_upd {O B : Nat → Int32} {m j : Nat} {x : Int32} (h : (B j).toInt ≤ (m : Int)) : nt (upd O m x) (B j).toInt.toNat = nt O (B j).toInt.toNat := nt_cong (fun k hk => i_upne (by omega))
theorem SM_O {F P G B O : Nat → Int32} {d m : Nat} {x : Int32} (h : ∀ j, j < d → (B j).toInt ≤ (m : Int)) : SM F P G B (upd O m x) d = SM F P G B O d := SM_cong (fun _ _ => rfl) (fun _ _ => rfl) (fun _ _ => rfl) (fun _ _ => rfl) (fun j q => nt_upd (h j q))
/-- rows that change from the last frame on -/
theorem SM_lo {F P G B O F' P' G' B' : Nat → Int32} {d : Nat} (h1 : ∀ j, j < d → F' j = F j) (h2 : ∀ j, j < d → P' j = P j) (h3 : ∀ j, j < d → G' j = G j) (h4 : ∀ j, j < d → B' j = B j) : SM F' P' G' B' O d = SM F P G B O d := SM_cong h1 h2 h3 h4 (fun _ _ => rfl)
theorem SM_top {F P G B O : Nat → Int32} {d f : Nat} (h : 1 ≤ d) (e : f = d - 1) : SM F P G B O d = (F f, P f, G f, nt O (B f).toInt.toNat + (f : Int)) :: SM F P G B O f := by
  obtain ⟨k, rfl⟩ : ∃ k, d = k + 1 := ⟨d - 1, by omega⟩
  have z : f = k := by omega
  subst z
  rfl
theorem PX_B {F P G Q B O C : Nat → Int32} {d m c n z : Nat} {Z : Nat → Int32} {o a v : Int} (h : PX F P G Q B O C d m o c n a v z Z) : ∀ j, j < d → (B j).toInt ≤ (m : Int) := by
  obtain ⟨D, q1, -⟩ := h
  intro j hj
  have a := PI_mono q1 j hj
  have b := q1.2.2.2.1
  omega
theorem PX_nt {F P G Q B O C : Nat → Int32} {d m c n z : Nat} {Z : Nat → Int32} {o a v : Int} (h : PX F P G Q B O C d m o c n a v z Z) : 1 ≤ d ∧ o = nt O m + ((d : Int) - 1) := by
  obtain ⟨D, q1, -⟩ := h
  exact ⟨q1.1, q1.2.2.2.2.1.symm⟩
/-- behind a FACT no 'not' waits in the last frame -/
theorem nt_same (O : Nat → Int32) (b : Nat) : ∀ k, (∀ j, b ≤ j → j < b + k → (O j).toInt ≠ 22) → nt O (b + k) = nt O b
  | 0, _ => rfl
  | k + 1, h => by
    have e := nt_same O b k (fun j h1 h2 => h j h1 (by omega))
    have q := h (b + k) (by omega) (by omega)
    show nt O (b + k) + (if (O (b + k)).toInt = 22 then 1 else 0) = nt O b
    rw [if_neg q, e]; omega
theorem PX_fact {F P G Q B O C : Nat → Int32} {d m c n z : Nat} {Z : Nat → Int32} {o a v x : Int} (h : PX F P G Q B O C d m o c n a v z Z) (hD : (B (d - 1)).toInt = (m : Int) ∨ (1 ≤ m ∧ rkz (O (m - 1)).toInt < x)) (hx : x ≤ 3) : nt O m = nt O (B (d - 1)).toInt.toNat := by
  obtain ⟨D, q1, -⟩ := h
  have b0 := PI_b0 q1 (d - 1) (by have := q1.1; omega)
  have b1 := q1.2.2.2.1
  rcases hD with e | ⟨e1, e2⟩
  · have z : (B (d - 1)).toInt.toNat = m := by omega
    rw [z]
  · obtain ⟨m', rfl⟩ : ∃ m', m = m' + 1 := ⟨m - 1, by omega⟩
    rw [show m' + 1 - 1 = m' by omega] at e2
    have tp := PI_top q1
    obtain ⟨k, hk⟩ : ∃ k, m' + 1 = (B (d - 1)).toInt.toNat + k := ⟨m' + 1 - (B (d - 1)).toInt.toNat, by omega⟩
    rw [hk]
    refine nt_same O _ k (fun j h1 h2 q => ?_)
    have r := tp j (by omega) (by omega)
    rw [q] at r
    have r3 : rkz 22 = 3 := by decide
    omega
theorem fi_g0 {k bg : Int32} (h : bg = 0) : fi k bg = false := by rw [h]; exact fi_0 k
theorem fi_y {k bg : Int32} (h : isT k = true) (g : ¬ bg = 0) : fi k bg = true := by unfold fi; rw [h, decide_eq_true g]; rfl
/-- fi, and a test that it asks for -/
def nf (b c : Bool) : Prop := b = false ∨ c = false
theorem nf_a {b c : Bool} (h : nf b c) : ¬ (b && c) = true := by rcases h with h | h <;> (rw [h]; simp)
section
variable {t : Nat → Int32} {n a a' : Nat} {F P G B O : Nat → Int32} {d f m : Nat} {o o' : Int} {x y w : Int32}
theorem mo_not7 (hd : 1 ≤ d) (hf : f = d - 1) (ha : a ≤ n) (b : kB t n a = false) (h1 : fi (F f) (G f) = true) (h2 : tq t n a 321 = true) (ho : o = 7) : EV t n false o (SM F P G B O d) a = none := by
  rw [SM_top hd hf, EV_o ha]
  unfold stO
  rw [if_neg (by rw [b]; decide), h1, h2, if_pos (by decide), if_pos ho]
theorem mo_not (hd : 1 ≤ d) (hf : f = d - 1) (ha : a ≤ n) (b : kB t n a = false) (h1 : fi (F f) (G f) = true) (h2 : tq t n a 321 = true) (ho : ¬ o = 7) (hB : ∀ j, j < d → (B j).toInt ≤ (m : Int)) (e : a' = nx t n a) (eo : o' = o + 1) : EV t n false o (SM F P G B O d) a = EV t n false o' (SM F P G B (upd O m x) d) a' := by
  rw [SM_O hB, SM_top hd hf, EV_o ha, e, eo]
  unfold stO
  rw [if_neg (by rw [b]; decide), h1, h2, if_pos (by decide), if_neg ho]
theorem SM_g0 (hd : 1 ≤ d) (hf : f = d - 1) : SM F P (upd G f 0) B O d = (F f, P f, 0, nt O (B f).toInt.toNat + (f : Int)) :: SM F P G B O f := by
  rw [SM_top hd hf, i_upeq, SM_lo (F := F) (P := P) (G := G) (B := B) (fun _ _ => rfl) (fun _ _ => rfl) (fun j q => i_upne (by omega)) (fun _ _ => rfl)]
theorem mo_bk7 (hd : 1 ≤ d) (hf : f = d - 1) (ha : a ≤ n) (b : kB t n a = false) (h0 : nf (fi (F f) (G f)) (tq t n a 321)) (h1 : fi (F f) (G f) = true) (h2 : tq t n a 91 = true) (ho : o = 7) : EV t n false o (SM F P G B O d) a = none := by
  rw [SM_top hd hf, EV_o ha]
  unfold stO
  rw [if_neg (by rw [b]; decide), if_neg (nf_a h0), h1, h2, if_pos (by decide), if_pos ho]
theorem mo_bk {S' : List Fr} (hd : 1 ≤ d) (hf : f = d - 1) (ha : a ≤ n) (b : kB t n a = false) (h0 : nf (fi (F f) (G f)) (tq t n a 321)) (h1 : fi (F f) (G f) = true) (h2 : tq t n a 91 = true) (ho : ¬ o = 7) (hS : S' = (5, 0, 1, o + 1) :: SM F P (upd G f 0) B O d) (e : a' = nx t n a) (eo : o' = o + 1) : EV t n false o (SM F P G B O d) a = EV t n false o' S' a' := by
  rw [hS, SM_g0 hd hf, SM_top hd hf, EV_o ha, e, eo]
  unfold stO
  rw [if_neg (by rw [b]; decide), if_neg (nf_a h0), h1, h2, if_pos (by decide), if_neg ho]
theorem mo_all (hd : 1 ≤ d) (hf : f = d - 1) (ha : a ≤ n) (b : kB t n a = false) (h0 : nf (fi (F f) (G f)) (tq t n a 321)) (h3 : nf (fi (F f) (G f)) (tq t n a 91)) (h1 : fi (F f) (G f) = true) (h2 : tq t n a 322 = true) (e : a' = nx t n a) : EV t n false o (SM F P G B O d) a = EV t n true o (SM F (upd P f 2) (upd G f 0) B O d) a' := by
  have s : SM F (upd P f 2) (upd G f 0) B O d = (F f, 2, 0, nt O (B f).toInt.toNat + (f : Int)) :: SM F P G B O f := by
    rw [SM_top hd hf, i_upeq, i_upeq, SM_lo (F := F) (P := P) (G := G) (B := B) (fun _ _ => rfl) (fun j q => i_upne (by omega)) (fun j q => i_upne (by omega)) (fun _ _ => rfl)]
  rw [s, SM_top hd hf, EV_o ha, e]
  unfold stO
  rw [if_neg (by rw [b]; decide), if_neg (nf_a h0), if_neg (nf_a h3), h1, h2, if_pos (by decide)]
theorem mo_br7 (hd : 1 ≤ d) (hf : f = d - 1) (ha : a ≤ n) (b : kB t n a = false) (h0 : nf (fi (F f) (G f)) (tq t n a 321)) (h3 : nf (fi (F f) (G f)) (tq t n a 91)) (h4 : nf (fi (F f) (G f)) (tq t n a 322)) (h2 : tq t n a 40 = true) (ho : o = 7) : EV t n false o (SM F P G B O d) a = none := by
  rw [SM_top hd hf, EV_o ha]
  unfold stO
  rw [if_neg (by rw [b]; decide), if_neg (nf_a h0), if_neg (nf_a h3), if_neg (nf_a h4), if_pos h2, if_pos ho]
theorem mo_br {S' : List Fr} (hd : 1 ≤ d) (hf : f = d - 1) (ha : a ≤ n) (b : kB t n a = false) (h0 : nf (fi (F f) (G f)) (tq t n a 321)) (h3 : nf (fi (F f) (G f)) (tq t n a 91)) (h4 : nf (fi (F f) (G f)) (tq t n a 322)) (h2 : tq t n a 40 = true) (ho : ¬ o = 7) (hS : S' = (2, 0, 1, o + 1) :: SM F P (upd G f 0) B O d) (e : a' = nx t n a) (eo : o' = o + 1) : EV t n false o (SM F P G B O d) a = EV t n false o' S' a' := by
  rw [hS, SM_g0 hd hf, SM_top hd hf, EV_o ha, e, eo]
  unfold stO
  rw [if_neg (by rw [b]; decide), if_neg (nf_a h0), if_neg (nf_a h3), if_neg (nf_a h4), if_pos h2, if_neg ho]
/-- min, max: what its next sign makes of it -/
theorem mo_mm (hd : 1 ≤ d) (hf : f = d - 1) (ha : a ≤ n) (b : kB t n a = false) (h0 : nf (fi (F f) (G f)) (tq t n a 321)) (h3 : nf (fi (F f) (G f)) (tq t n a 91)) (h4 : nf (fi (F f) (G f)) (tq t n a 322)) (h2 : tq t n a 40 = false) (h5 : tq t n a 323 = true ∨ tq t n a 324 = true) : EV t n false o (SM F P G B O d) a = if kB t n (nx t n a) = true then none else if tq t n (nx t n a) 40 = false then none else if o = 7 then none else EV t n false (o + 1) ((3, 0, 1, o + 1) :: SM F P (upd G f 0) B O d) (nx t n (nx t n a)) := by
  have h6 : (tq t n a 323 || tq t n a 324) = true := by rcases h5 with h | h; exact oL h; exact oR h
  rw [SM_g0 hd hf, SM_top hd hf, EV_o ha]
  unfold stO
  rw [if_neg (by rw [b]; decide), if_neg (nf_a h0), if_neg (nf_a h3), if_neg (nf_a h4), if_neg (by rw [h2]; decide), if_pos h6]
theorem mo_pt (hd : 1 ≤ d) (hf : f = d - 1) (ha : a ≤ n) (b : kB t n a = false) (h0 : nf (fi (F f) (G f)) (tq t n a 321)) (h3 : nf (fi (F f) (G f)) (tq t n a 91)) (h4 : nf (fi (F f) (G f)) (tq t n a 322)) (h2 : tq t n a 40 = false) (h5 : tq t n a 323 = false) (h6 : tq t n a 324 = false) (h7 : tP t n a = true) (e : a' = nx t n a) : EV t n false o (SM F P G B O d) a = EV t n true o (SM F P (upd G f 0) B O d) a' := by
  rw [SM_g0 hd hf, SM_top hd hf, EV_o ha, e]
  unfold stO
  rw [if_neg (by rw [b]; decide), if_neg (nf_a h0), if_neg (nf_a h3), if_neg (nf_a h4), if_neg (by rw [h2]; decide), if_neg (by rw [h5, h6]; decide), if_pos h7]
theorem mo_no (hd : 1 ≤ d) (hf : f = d - 1) (ha : a ≤ n) (b : kB t n a = false) (h0 : nf (fi (F f) (G f)) (tq t n a 321)) (h3 : nf (fi (F f) (G f)) (tq t n a 91)) (h4 : nf (fi (F f) (G f)) (tq t n a 322)) (h2 : tq t n a 40 = false) (h5 : tq t n a 323 = false) (h6 : tq t n a 324 = false) (h7 : tP t n a = false) : EV t n false o (SM F P G B O d) a = none := by
  rw [SM_top hd hf, EV_o ha]
  unfold stO
  rw [if_neg (by rw [b]; decide), if_neg (nf_a h0), if_neg (nf_a h3), if_neg (nf_a h4), if_neg (by rw [h2]; decide), if_neg (by rw [h5, h6]; decide), if_neg (by rw [h7]; decide)]
theorem tP_1 (h : tq t n a 257 = true ∨ tq t n a 301 = true ∨ tq t n a 315 = true ∨ tq t n a 316 = true ∨ tq t n a 317 = true ∨ tq t n a 318 = true ∨ tq t n a 305 = true ∨ tq t n a 302 = true) : tP t n a = true := by
  unfold tP
  rcases h with h | h | h | h | h | h | h | h <;> simp [h]
theorem tP_0 (h1 : tq t n a 257 = false) (h2 : tq t n a 301 = false) (h3 : tq t n a 315 = false) (h4 : tq t n a 316 = false) (h5 : tq t n a 317 = false) (h6 : tq t n a 318 = false) (h7 : tq t n a 305 = false) (h8 : tq t n a 302 = false) : tP t n a = false := by
  unfold tP
  rw [h1, h2, h3, h4, h5, h6, h7, h8]; rfl
/-! behind a part -/
theorem tO_1 (h : tq t n a 43 = true ∨ tq t n a 45 = true ∨ tq t n a 42 = true ∨ tq t n a 47 = true ∨ tq t n a 37 = true) : tO t n a = true := by
  unfold tO
  rcases h with h | h | h | h | h <;> simp [h]
theorem tO_0 (h1 : tq t n a 43 = false) (h2 : tq t n a 45 = false) (h3 : tq t n a 42 = false) (h4 : tq t n a 47 = false) (h5 : tq t n a 37 = false) : tO t n a = false := by
  unfold tO
  rw [h1, h2, h3, h4, h5]; rfl
theorem tC_1 (h : tq t n a 60 = true ∨ tq t n a 62 = true ∨ tq t n a 61 = true) : tC t n a = true := by
  unfold tC
  rcases h with h | h | h <;> simp [h]
theorem tC_0 (h1 : tq t n a 60 = false) (h2 : tq t n a 62 = false) (h3 : tq t n a 61 = false) : tC t n a = false := by
  unfold tC
  rw [h1, h2, h3]; rfl
/-- no operator, or behind a whole FACT -/
def nO (ph : Int32) (b : Bool) : Prop := ¬ ph < 2 ∨ b = false
theorem nO_a {ph : Int32} {b : Bool} (h : nO ph b) : ¬ (decide (ph < 2) && b) = true := by
  rcases h with h | h
  · rw [decide_eq_false h]; simp
  · rw [h]; simp
def nC (k ph : Int32) (b : Bool) : Prop := isT k = false ∨ ¬ ph = 0 ∨ b = false
theorem nC_a {k ph : Int32} {b : Bool} (h : nC k ph b) : ¬ (isT k && decide (ph = 0) && b) = true := by
  rcases h with h | h | h
  · rw [h]; simp
  · rw [decide_eq_false h]; simp
  · rw [h]; simp
theorem mb_op (hd : 1 ≤ d) (hf : f = d - 1) (ha : a ≤ n) (b : kB t n a = false) (h1 : P f < 2) (h2 : tO t n a = true) (hB : ∀ j, j < d → (B j).toInt ≤ (m : Int)) (e : a' = nx t n a) (eo : o' = o) : EV t n true o (SM F P G B O d) a = EV t n false o' (SM F P G B (upd O m x) d) a' := by
  rw [SM_O hB, SM_top hd hf, EV_b ha, e, eo]
  unfold stB
  rw [if_neg (by rw [b]; decide), decide_eq_true h1, h2, if_pos (by decide)]
theorem mb_cmp (hd : 1 ≤ d) (hf : f = d - 1) (ha : a ≤ n) (b : kB t n a = false) (h0 : nO (P f) (tO t n a)) (h1 : isT (F f) = true) (h2 : P f = 0) (h3 : tC t n a = true) (hB : ∀ j, j < d → (B j).toInt ≤ (m : Int)) (e : a' = nx t n a) (eo : o' = o) : EV t n true o (SM F P G B O d) a = EV t n false o' (SM F (upd P f 1) G B (upd O m x) d) a' := by
  have s : SM F (upd P f 1) G B O d = (F f, 1, G f, nt O (B f).toInt.toNat + (f : Int)) :: SM F P G B O f := by
    rw [SM_top hd hf, i_upeq, SM_lo (F := F) (P := P) (G := G) (B := B) (fun _ _ => rfl) (fun j q => i_upne (by omega)) (fun _ _ => rfl) (fun _ _ => rfl)]
  rw [SM_O hB, s, SM_top hd hf, EV_b ha, e, eo]
  unfold stB
  rw [if_neg (by rw [b]; decide), if_neg (nO_a h0), h1, decide_eq_true h2, h3, if_pos (by decide)]
theorem mb_and (hd : 1 ≤ d) (hf : f = d - 1) (ha : a ≤ n) (b : kB t n a = false) (h0 : nO (P f) (tO t n a)) (hc : nC (F f) (P f) (tC t n a)) (h1 : isT (F f) = true) (h2 : ¬ P f = 0) (h3 : tq t n a 320 = true ∨ tq t n a 319 = true) (hB : ∀ j, j < d → (B j).toInt ≤ (m : Int)) (e : a' = nx t n a) (eo : o' = nt O (B f).toInt.toNat + (f : Int)) : EV t n true o (SM F P G B O d) a = EV t n false o' (SM F (upd P f 0) (upd G f 1) B (upd O m x) d) a' := by
  have s : SM F (upd P f 0) (upd G f 1) B O d = (F f, 0, 1, nt O (B f).toInt.toNat + (f : Int)) :: SM F P G B O f := by
    rw [SM_top hd hf, i_upeq, i_upeq, SM_lo (F := F) (P := P) (G := G) (B := B) (fun _ _ => rfl) (fun j q => i_upne (by omega)) (fun j q => i_upne (by omega)) (fun _ _ => rfl)]
  have h4 : (tq t n a 320 || tq t n a 319) = true := by rcases h3 with h | h; exact oL h; exact oR h
  rw [SM_O hB, s, SM_top hd hf, EV_b ha, e, eo]
  unfold stB
  rw [if_neg (by rw [b]; decide), if_neg (nO_a h0), if_neg (nC_a hc), h1, h4, if_pos (by decide), if_neg h2]
theorem mb_and0 (hd : 1 ≤ d) (hf : f = d - 1) (ha : a ≤ n) (b : kB t n a = false) (h0 : nO (P f) (tO t n a)) (hc : nC (F f) (P f) (tC t n a)) (h1 : isT (F f) = true) (h2 : P f = 0) (h3 : tq t n a 320 = true ∨ tq t n a 319 = true) : EV t n true o (SM F P G B O d) a = none := by
  have h4 : (tq t n a 320 || tq t n a 319) = true := by rcases h3 with h | h; exact oL h; exact oR h
  rw [SM_top hd hf, EV_b ha]
  unfold stB
  rw [if_neg (by rw [b]; decide), if_neg (nO_a h0), if_neg (nC_a hc), h1, h4, if_pos (by decide), if_pos h2]
def nA (k : Int32) (b c : Bool) : Prop := isT k = false ∨ (b = false ∧ c = false)
theorem nA_a {k : Int32} {b c : Bool} (h : nA k b c) : ¬ (isT k && (b || c)) = true := by
  rcases h with h | ⟨h1, h2⟩
  · rw [h]; simp
  · rw [h1, h2]; simp
theorem mb_ph (hd : 1 ≤ d) (hf : f = d - 1) (ha : a ≤ n) (b : kB t n a = false) (h0 : nO (P f) (tO t n a)) (hc : nC (F f) (P f) (tC t n a)) (h3 : nA (F f) (tq t n a 320) (tq t n a 319)) (h1 : isT (F f) = true) (h2 : P f = 0) : EV t n true o (SM F P G B O d) a = none := by
  rw [SM_top hd hf, EV_b ha]
  unfold stB
  rw [if_neg (by rw [b]; decide), if_neg (nO_a h0), if_neg (nC_a hc), if_neg (nA_a h3), h1, decide_eq_true h2, if_pos (by decide)]
/-- its end, as far as the frame's kind tells -/
def nP (k ph : Int32) : Prop := isT k = false ∨ ¬ ph = 0
theorem nP_a {k ph : Int32} (h : nP k ph) : ¬ (isT k && decide (ph = 0)) = true := by
  rcases h with h | h
  · rw [h]; simp
  · rw [decide_eq_false h]; simp
theorem mb_end (hd : 1 ≤ d) (hf : f = d - 1) (ha : a ≤ n) (b : kB t n a = false) (h0 : nO (P f) (tO t n a)) (hc : nC (F f) (P f) (tC t n a)) (h3 : nA (F f) (tq t n a 320) (tq t n a 319)) (hp : nP (F f) (P f)) (hk : F f < 2) : EV t n true o (SM F P G B O d) a = some a := by
  rw [SM_top hd hf, EV_b ha]
  unfold stB
  rw [if_neg (by rw [b]; decide), if_neg (nO_a h0), if_neg (nC_a hc), if_neg (nA_a h3), if_neg (nP_a hp), if_pos hk]
theorem mb_com0 (hd : 1 ≤ d) (hf : f = d - 1) (ha : a ≤ n) (b : kB t n a = false) (h0 : nO (P f) (tO t n a)) (hc : nC (F f) (P f) (tC t n a)) (h3 : nA (F f) (tq t n a 320) (tq t n a 319)) (hp : nP (F f) (P f)) (hk : F f = 3) (h4 : tq t n a 44 = false) : EV t n true o (SM F P G B O d) a = none := by
  rw [SM_top hd hf, EV_b ha]
  unfold stB
  rw [if_neg (by rw [b]; decide), if_neg (nO_a h0), if_neg (nC_a hc), if_neg (nA_a h3), if_neg (nP_a hp), if_neg (by rw [hk]; decide), if_pos hk, if_pos h4]
theorem mb_com (hd : 1 ≤ d) (hf : f = d - 1) (ha : a ≤ n) (b : kB t n a = false) (h0 : nO (P f) (tO t n a)) (hc : nC (F f) (P f) (tC t n a)) (h3 : nA (F f) (tq t n a 320) (tq t n a 319)) (hp : nP (F f) (P f)) (hk : F f = 3) (h4 : tq t n a 44 = true) (e : a' = nx t n a) (eo : o' = nt O (B f).toInt.toNat + (f : Int)) : EV t n true o (SM F P G B O d) a = EV t n false o' (SM (upd F f 4) P G B O d) a' := by
  have s : SM (upd F f 4) P G B O d = (4, P f, G f, nt O (B f).toInt.toNat + (f : Int)) :: SM F P G B O f := by
    rw [SM_top hd hf, i_upeq, SM_lo (F := F) (P := P) (G := G) (B := B) (fun j q => i_upne (by omega)) (fun _ _ => rfl) (fun _ _ => rfl) (fun _ _ => rfl)]
  rw [s, SM_top hd hf, EV_b ha, e, eo]
  unfold stB
  rw [if_neg (by rw [b]; decide), if_neg (nO_a h0), if_neg (nC_a hc), if_neg (nA_a h3), if_neg (nP_a hp), if_neg (by rw [hk]; decide), if_pos hk, if_neg (by rw [h4]; decide)]
theorem mb_cl0 (hd : 1 ≤ d) (hf : f = d - 1) (ha : a ≤ n) (b : kB t n a = false) (h0 : nO (P f) (tO t n a)) (hc : nC (F f) (P f) (tC t n a)) (h3 : nA (F f) (tq t n a 320) (tq t n a 319)) (hp : nP (F f) (P f)) (hk : ¬ F f < 2) (hk3 : ¬ F f = 3) (h4 : tq t n a (if F f = 5 then 93 else 41) = false) : EV t n true o (SM F P G B O d) a = none := by
  rw [SM_top hd hf, EV_b ha]
  unfold stB
  rw [if_neg (by rw [b]; decide), if_neg (nO_a h0), if_neg (nC_a hc), if_neg (nA_a h3), if_neg (nP_a hp), if_neg hk, if_neg hk3, if_pos h4]
theorem mb_cl {P' : Nat → Int32} (hd : 2 ≤ d) (hf : f = d - 1) (ha : a ≤ n) (b : kB t n a = false) (h0 : nO (P f) (tO t n a)) (hc : nC (F f) (P f) (tC t n a)) (h3 : nA (F f) (tq t n a 320) (tq t n a 319)) (hp : nP (F f) (P f)) (hk : ¬ F f < 2) (hk3 : ¬ F f = 3) (h4 : tq t n a (if F f = 5 then 93 else 41) = true) (hP : P' = if F f = 5 then upd P (f - 1) 2 else P) (e : a' = nx t n a) (eo : o' = nt O (B f).toInt.toNat + (f : Int) - 1) : EV t n true o (SM F P G B O d) a = EV t n true o' (SM F P' G B O f) a' := by
  have s : SM F P' G B O f = (F (f - 1), (if F f = 5 then 2 else P (f - 1)), G (f - 1), nt O (B (f - 1)).toInt.toNat + ((f - 1 : Nat) : Int)) :: SM F P G B O (f - 1) := by
    rw [hP, SM_top (f := f - 1) (by omega) rfl]
    by_cases c : F f = 5
    · rw [if_pos c, if_pos c, i_upeq, SM_lo (F := F) (P := P) (G := G) (B := B) (fun _ _ => rfl) (fun j q => i_upne (by omega)) (fun _ _ => rfl) (fun _ _ => rfl)]
    · rw [if_neg c, if_neg c]
  rw [s, SM_top (by omega) hf, EV_b ha, e, eo]
  unfold stB
  rw [if_neg (by rw [b]; decide), if_neg (nO_a h0), if_neg (nC_a hc), if_neg (nA_a h3), if_neg (nP_a hp), if_neg hk, if_neg hk3, if_neg (by rw [h4]; decide), SM_top (F := F) (P := P) (G := G) (B := B) (O := O) (d := f) (f := f - 1) (by omega) rfl]
  rfl
end
def bN (x : Int32) : Bool := decide (¬ x = 0)
def LXQ (lx f f' : Int32) : Prop := (lx = -1 ∧ f' = f) ∨ (¬ lx = -1 ∧ (f = 0 → 0 < f'))
theorem LS_ok {t : Nat → Int32} {n : Nat} {sg sa se vl lx f f' : Int32} {wd : Int64} (h : LSG t n sg sa se vl lx wd) (x : LXQ lx f f') (z : f = 0) (k : f' ≤ 0) : kB t n sa.toNatClampNeg = false := by
  rcases x with x | x
  · exact h.2.2.2.2.2.2.2.mp x.1
  · have q := Int32.lt_iff_toInt_lt.mp (x.2 z)
    have r := Int32.le_iff_toInt_le.mp k
    omega
theorem LS_nok {t : Nat → Int32} {n : Nat} {sg sa se vl lx f f' : Int32} {wd : Int64} (h : LSG t n sg sa se vl lx wd) (x : LXQ lx f f') (z : f = 0) (k : 0 < f') : kB t n sa.toNatClampNeg = true := by
  rcases x with x | x
  · rw [x.2] at k; exact absurd z (f_ne k)
  · cases c : kB t n sa.toNatClampNeg with
    | true => rfl
    | false => exact absurd (h.2.2.2.2.2.2.2.mpr c) x.1
theorem AH_nx {t : Nat → Int32} {sz p v0 sg sa se vl lx sg0 sa0 vl0 lx0 : Int32} {w0 wd wd0 : Int64} (h : AH t sz p v0 w0 sg sa se vl lx wd) (l : LSG t sz.toNatClampNeg sg0 sa0 p vl0 lx0 wd0) : sa.toNatClampNeg = nx t sz.toNatClampNeg sa0.toNatClampNeg := by
  rw [h.1, l.2.2.2.1]; rfl
theorem nf_c {b c c' : Bool} (e : c = c') (h : nf b c) : nf b c' := by rw [← e]; exact h
theorem f_le {f : Int32} (h : f = 0) : f ≤ 0 := by rw [h]; decide
theorem f_eq {f : Int32} {b : Int} (h : f ≤ 0) (r : iR f 0 b) : f = 0 := by
  have q := Int32.le_iff_toInt_le.mp h
  have z : (0 : Int32).toInt = 0 := by decide
  have r1 := r.1
  exact Int32.toInt_inj.mp (by omega)
/-- a frame is put on -/
theorem SM_push {F P G Q B O C : Nat → Int32} {d m c n z kn d' : Nat} {Z : Nat → Int32} {o a v : Int} {k mm : Int32} (h : PX F P G Q B O C d m o c n a v z Z) (ek : kn = d) (ed : d' = d + 1) (em : mm.toInt = (m : Int)) : SM (upd F kn k) (upd P kn 0) (upd G kn 1) (upd B kn mm) O d' = (k, 0, 1, o + 1) :: SM F P G B O d := by
  have q := PX_nt h
  rw [ed, ek]
  show (upd F d k d, upd P d 0 d, upd G d 1 d, nt O (upd B d mm d).toInt.toNat + (d : Int)) :: SM (upd F d k) (upd P d 0) (upd G d 1) (upd B d mm) O d = _
  rw [i_upeq, i_upeq, i_upeq, i_upeq, SM_lo (F := F) (P := P) (G := G) (B := B) (fun j r => i_upne (by omega)) (fun j r => i_upne (by omega)) (fun j r => i_upne (by omega)) (fun j r => i_upne (by omega)), em]
  have e : ((m : Int)).toNat = m := by omega
  rw [e, show nt O m + (d : Int) = o + 1 by omega]
theorem SM_init {F P G B O : Nat → Int32} {kn d' : Nat} {k mm : Int32} (ek : kn = 0) (ed : d' = 1) (em : mm = 0) : SM (upd F kn k) (upd P kn 0) (upd G kn 1) (upd B kn mm) O d' = [(k, 0, 1, 0)] := by
  rw [ed, ek, em]
  show (upd F 0 k 0, upd P 0 0 0, upd G 0 1 0, nt O (upd B 0 0 0).toInt.toNat + ((0 : Nat) : Int)) :: [] = _
  rw [i_upeq, i_upeq, i_upeq, i_upeq]
  rfl
/-- min, max: its bracket stands there -/
theorem m_mm {t : Nat → Int32} {n a : Nat} {X : Option Nat} {o oo o' : Int} {S1 S' : List Fr} {sg sa se vl lx fk fk2 f' sa3 op : Int32} {wd : Int64} (H : X = if kB t n (nx t n a) = true then none else if tq t n (nx t n a) 40 = false then none else if o = 7 then none else EV t n false (o + 1) ((3, 0, 1, o + 1) :: S1) (nx t n (nx t n a)))
    (l : LSG t n sg sa se vl lx wd) (ea : sa.toNatClampNeg = nx t n a) (x2 : LXQ lx fk fk2) (hfk : fk = 0) (hs : decide (sg = 3 ∧ vl = 40) = true) (eo : oo = o) (eq7 : op = 7 → oo = 7) (en7 : ¬ op = 7 → ¬ oo = 7)
    (ho : LSG t n sg sa se vl lx wd → fk2 = 0 → (0 < f' ∧ op = 7) ∨ (f' = 0 ∧ ¬ op = 7 ∧ o' = oo + 1 ∧ sa3.toNatClampNeg = nx t n sa.toNatClampNeg ∧ S' = (3, 0, 1, oo + 1) :: S1)) (fm : 0 < fk2 → 0 < f') : (0 < f' ∧ X = none) ∨ (f' = 0 ∧ X = EV t n false o' S' sa3.toNatClampNeg) := by
  subst eo
  have t4 : tq t n (nx t n a) 40 = true := by rw [← ea]; exact (LS_s l (c := 40) (by decide)).symm.trans hs
  cases c : kB t n (nx t n a) with
  | true =>
    have k : kB t n sa.toNatClampNeg = true := by rw [ea]; exact c
    have nl : ¬ lx = -1 := fun q => by rw [l.2.2.2.2.2.2.2.mp q] at k; exact absurd k (by decide)
    rcases x2 with x2 | x2
    · exact absurd x2.1 nl
    · exact Or.inl ⟨fm (x2.2 hfk), by rw [H, if_pos c]⟩
  | false =>
    have k : kB t n sa.toNatClampNeg = false := by rw [ea]; exact c
    have lk := l.2.2.2.2.2.2.2.mpr k
    rcases x2 with x2 | x2
    · rw [if_neg (by rw [c]; decide), if_neg (by rw [t4]; decide)] at H
      rcases ho l (x2.2.trans hfk) with q | ⟨q1, q2, q3, q4, q5⟩
      · exact Or.inl ⟨q.1, by rw [H, if_pos (eq7 q.2)]⟩
      · exact Or.inr ⟨q1, by rw [H, if_neg (en7 q2), q3, q4, q5, ea]⟩
    · exact absurd lk x2.1
theorem m_mm0 {t : Nat → Int32} {n a : Nat} {X : Option Nat} {o : Int} {S1 : List Fr} {sg sa se vl lx : Int32} {wd : Int64} (H : X = if kB t n (nx t n a) = true then none else if tq t n (nx t n a) 40 = false then none else if o = 7 then none else EV t n false (o + 1) ((3, 0, 1, o + 1) :: S1) (nx t n (nx t n a)))
    (l : LSG t n sg sa se vl lx wd) (ea : sa.toNatClampNeg = nx t n a) (hs : decide (sg = 3 ∧ vl = 40) = false) : X = none := by
  have t4 : tq t n (nx t n a) 40 = false := by rw [← ea]; exact (LS_s l (c := 40) (by decide)).symm.trans hs
  rw [H]
  split
  · rfl
  · first | rfl | rw [if_pos t4]
/-- what is open where the last frame begins -/
theorem m_o0 {F P G Q B O C : Nat → Int32} {d m c n z f : Nat} {Z : Nat → Int32} {o a v x mi : Int} (h : PX F P G Q B O C d m o c n a v z Z) (hD : (B (d - 1)).toInt = mi ∨ (1 ≤ m ∧ rkz (O (m - 1)).toInt < x)) (hm : mi = (m : Int)) (hx : x ≤ 3) (hf : f = d - 1) : o = nt O (B f).toInt.toNat + (f : Int) := by
  have e := PX_fact h (by rw [← hm]; exact hD) hx
  have q := PX_nt h
  rw [hf, ← e]
  omega
theorem bN_0 {x : Int32} (h : x = 0) : bN x = false := by rw [h]; decide
theorem bN_1 {x : Int32} (h : ¬ x = 0) : bN x = true := decide_eq_true h
theorem bN_c {x : Int32} (h : iR x 1 1) : bN x = true := bN_1 (fun q => by have r := h.1; rw [q] at r; exact absurd r (by decide))
theorem rd_o1 {P : Prop} {X E1 E1' E2 : Option Nat} {mo fk fk' : Int32} (p : (mo = 0 ∧ P) ∨ (¬ mo = 0 ∧ fk = 0 ∧ X = E1)) (hm : ¬ mo = 0) (e : E1 = E1') (q : fk = 0 → (0 < fk' ∧ E1' = none) ∨ (fk' = 0 ∧ E1' = E2)) (h : fk' = 0) : X = E2 := by
  obtain ⟨-, p1, p2⟩ := p.resolve_left (fun z => hm z.1)
  rcases q p1 with q | q
  · exact absurd h (f_ne q.1)
  · rw [p2, e, q.2]
theorem rd_o2 {P : Prop} {X E1 E1' E2 : Option Nat} {mo fk fk' : Int32} (p : (mo = 0 ∧ P) ∨ (¬ mo = 0 ∧ fk = 0 ∧ X = E1)) (hm : ¬ mo = 0) (e : E1 = E1') (q : fk = 0 → (0 < fk' ∧ E1' = none) ∨ (fk' = 0 ∧ E1' = E2)) (h : ¬ fk' = 0) : 0 < fk' ∧ X = none := by
  obtain ⟨-, p1, p2⟩ := p.resolve_left (fun z => hm z.1)
  rcases q p1 with q | q
  · exact ⟨q.1, by rw [p2, e, q.2]⟩
  · exact absurd q.1 h
theorem rd_g1 {P : Prop} {X E1 E1' E2 : Option Nat} {A' : Nat} {mo fk fk' r : Int32} (p : (mo = 0 ∧ P) ∨ (¬ mo = 0 ∧ fk = 0 ∧ X = E1)) (hm : ¬ mo = 0) (e : E1 = E1') (q : fk = 0 → (0 < fk' ∧ E1' = none) ∨ (fk' = 0 ∧ r = 0 ∧ E1' = some A') ∨ (fk' = 0 ∧ ¬ r = 0 ∧ E1' = E2)) (hr : ¬ r = 0) (h : fk' = 0) : X = E2 := by
  obtain ⟨-, p1, p2⟩ := p.resolve_left (fun z => hm z.1)
  rcases q p1 with q | q | q
  · exact absurd h (f_ne q.1)
  · exact absurd q.2.1 hr
  · rw [p2, e, q.2.2]
theorem rd_g0 {P : Prop} {X E1 E1' E2 : Option Nat} {A' : Nat} {mo fk fk' r : Int32} (p : (mo = 0 ∧ P) ∨ (¬ mo = 0 ∧ fk = 0 ∧ X = E1)) (hm : ¬ mo = 0) (e : E1 = E1') (q : fk = 0 → (0 < fk' ∧ E1' = none) ∨ (fk' = 0 ∧ r = 0 ∧ E1' = some A') ∨ (fk' = 0 ∧ ¬ r = 0 ∧ E1' = E2)) (h : r = 0 ∨ ¬ fk' = 0) : (0 < fk' ∧ X = none) ∨ (fk' = 0 ∧ X = some A') := by
  obtain ⟨-, p1, p2⟩ := p.resolve_left (fun z => hm z.1)
  rcases q p1 with q | q | q
  · exact Or.inl ⟨q.1, by rw [p2, e, q.2]⟩
  · exact Or.inr ⟨q.1, by rw [p2, e, q.2.2]⟩
  · rcases h with h | h
    · exact absurd h q.2.1
    · exact absurd q.1 h
