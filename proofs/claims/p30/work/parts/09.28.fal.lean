/-! FALLS and BEARS -/
theorem i_or8 {p q : Nat} (hp : p < 256) (hq : q < 256) : (nI p <<< ((8 : Int32) &&& 31)) ||| nI q = nI (p * 256 + q) := by
  have e1 : nI p <<< ((8 : Int32) &&& 31) = nI (p * 256) := by
    apply Int32.toBitVec_inj.mp
    rw [Int32.toBitVec_shiftLeft, show ((8 : Int32) &&& 31).toBitVec.smod 32 = BitVec.ofNat 32 8 by decide]
    apply BitVec.eq_of_toNat_eq
    have hb : (nI p).toBitVec.toNat = p := Nat.mod_eq_of_lt (by omega)
    have hk' : (BitVec.ofNat 32 8).toNat = 8 := by decide
    have h : ((nI p).toBitVec <<< BitVec.ofNat 32 8).toNat = (p * 2 ^ 8) % 2 ^ 32 := by simp only [BitVec.shiftLeft_eq', BitVec.toNat_shiftLeft, hb, hk', Nat.shiftLeft_eq]
    exact h
  have t1 : (UInt32.ofNat (p * 256)).toNat = p * 256 := Nat.mod_eq_of_lt (by omega)
  have t2 : (UInt32.ofNat q).toNat = q := Nat.mod_eq_of_lt (by omega)
  have t3 : (UInt32.ofNat (p * 256 + q)).toNat = p * 256 + q := Nat.mod_eq_of_lt (by omega)
  have h1 : p * 256 ||| q = p * 256 + q := by
    have e : p * 256 = p <<< 8 := by rw [Nat.shiftLeft_eq]
    rw [e, ← Nat.shiftLeft_add_eq_or_of_lt (show q < 2 ^ 8 by omega)]
  have h3 : UInt32.ofNat (p * 256) ||| UInt32.ofNat q = UInt32.ofNat (p * 256 + q) := by
    apply UInt32.toNat_inj.mp
    rw [UInt32.toNat_or, t1, t2, t3, h1]
  have h2 := congrArg UInt32.toInt32 h3
  rw [e1]
  exact h2
theorem w2_v {a b : Int32} (ha : iR a 0 255) (hb : iR b 0 255) : ((a <<< ((8 : Int32) &&& 31)) ||| b).toInt = 256 * a.toInt + b.toInt := by
  have ea := iR_nI ha (by decide)
  have eb := iR_nI hb (by decide)
  have a1 := ha.1
  have a2 := ha.2
  have b1 := hb.1
  have b2 := hb.2
  have z := i_or8 (p := a.toInt.toNat) (q := b.toInt.toNat) (by omega) (by omega)
  rw [← ea, ← eb] at z
  rw [z, nI_toInt (by omega)]
  omega
/-- how dark it was -/
def DD (f : Nat → Int32) (j : Nat) : Int := 256 * (f (3 * j)).toInt + (f (3 * j + 1)).toInt
def FTB (f : Nat → Int32) (j : Nat) (b : Int) : Prop := (f (3 * j + 2) = 1 ∧ b < DD f j) ∨ (¬ f (3 * j + 2) = 1 ∧ DD f j ≤ b)
/-- the class: from le to mo, by the first m rows -/
def LM (f : Nat → Int32) (m : Int) (le mo : Int32) : Prop := 1 ≤ le.toInt ∧ mo.toInt ≤ 999 ∧ ∀ b : Int, 1 ≤ b → b ≤ 999 → ((le.toInt ≤ b ∧ b ≤ mo.toInt) ↔ ∀ j : Nat, (j : Int) < m → FTB f j b)
theorem LM_0 (f : Nat → Int32) : LM f (0 : Int32).toInt 1 999 := by
  have z0 : (0 : Int32).toInt = 0 := by decide
  have z1 : (1 : Int32).toInt = 1 := by decide
  have z9 : (999 : Int32).toInt = 999 := by decide
  refine ⟨by omega, by omega, fun b h1 h2 => ⟨fun _ j hj => by omega, fun _ => by omega⟩⟩
theorem LM_s {f : Nat → Int32} {k k' le mo le' mo' : Int32} (h : LM f k.toInt le mo) (hk : iR k 0 20) (ek : k' = k + 1) (c : (f (3 * k.toNatClampNeg + 2) = 1 ∧ le' = le ∧ mo'.toInt = (if mo.toInt < DD f k.toNatClampNeg - 1 then mo.toInt else DD f k.toNatClampNeg - 1)) ∨ (¬ f (3 * k.toNatClampNeg + 2) = 1 ∧ mo' = mo ∧ le'.toInt = (if le.toInt < DD f k.toNatClampNeg then DD f k.toNatClampNeg else le.toInt))) : LM f k'.toInt le' mo' := by
  obtain ⟨h1, h2, h3⟩ := h
  have e := i_add ek hk (iR_c (x := 1) (n := 1) (a := 1) (b := 1) (by decide) (by decide)) (by decide)
  have z1 : (1 : Int32).toInt = 1 := by decide
  have cn := iR_cn hk (by decide)
  have sp : ∀ b : Int, (∀ j : Nat, (j : Int) < k'.toInt → FTB f j b) ↔ ((∀ j : Nat, (j : Int) < k.toInt → FTB f j b) ∧ FTB f k.toNatClampNeg b) := by
    intro b
    constructor
    · intro q; exact ⟨fun j hj => q j (by omega), q _ (by omega)⟩
    · intro q j hj
      by_cases a : j = k.toNatClampNeg
      · rw [a]; exact q.2
      · exact q.1 j (by omega)
  rcases c with ⟨c1, c2, c3⟩ | ⟨c1, c2, c3⟩
  · subst c2
    refine ⟨h1, by split at c3 <;> omega, fun b b1 b2 => ?_⟩
    rw [sp b, ← h3 b b1 b2]
    have g : FTB f k.toNatClampNeg b ↔ b < DD f k.toNatClampNeg := ⟨fun q => by
      rcases q with q | q
      · exact q.2
      · exact absurd c1 q.1, fun q => Or.inl ⟨c1, q⟩⟩
    rw [g]
    split at c3 <;> omega
  · subst c2
    refine ⟨by split at c3 <;> omega, h2, fun b b1 b2 => ?_⟩
    rw [sp b, ← h3 b b1 b2]
    have g : FTB f k.toNatClampNeg b ↔ DD f k.toNatClampNeg ≤ b := ⟨fun q => by
      rcases q with q | q
      · exact absurd q.1 c1
      · exact q.2, fun q => Or.inr ⟨c1, q⟩⟩
    rw [g]
    split at c3 <;> omega
def FLX (f : Nat → Int32) (r le mo le' mo' : Int32) : Prop := (r = -1 ∧ le' = le ∧ mo' = mo) ∨ (0 ≤ r.toInt ∧ LM f r.toInt le' mo')
theorem LM_eq {f : Nat → Int32} {k r le mo : Int32} (h : LM f k.toInt le mo) (hk : k.toInt ≤ r.toInt) (hr : r ≤ k) : LM f r.toInt le mo := by
  have q := Int32.le_iff_toInt_le.mp hr
  have e : r.toInt = k.toInt := by omega
  rw [e]; exact h
/-- the reference: rows of falls -/
def FRW (f : Nat → Int32) (m : Int) (fd fi : Nat → Int32) : Prop := ∀ j : Nat, (j : Int) < m → (fd j).toInt = DD f j ∧ fi j = f (3 * j + 2)
theorem FRW_0 (f fd fi : Nat → Int32) : FRW f (0 : Int32).toInt fd fi := fun j hj => by
  have z0 : (0 : Int32).toInt = 0 := by decide
  omega
theorem FRW_s {f fd fi : Nat → Int32} {k k' y : Int32} {x : Int32} (h : FRW f k.toInt fd fi) (hk : iR k 0 20) (ek : k' = k + 1) (ey : y.toInt = DD f k.toNatClampNeg) (ex : x = f (3 * k.toNatClampNeg + 2)) : FRW f k'.toInt (upd fd k.toNatClampNeg y) (upd fi k.toNatClampNeg x) := by
  intro j hj
  have e := i_add ek hk (iR_c (x := 1) (n := 1) (a := 1) (b := 1) (by decide) (by decide)) (by decide)
  have z1 : (1 : Int32).toInt = 1 := by decide
  have cn := iR_cn hk (by decide)
  by_cases c : j = k.toNatClampNeg
  · subst c; rw [i_upeq, i_upeq]; exact ⟨ey, ex⟩
  · rw [i_upne c, i_upne c]; exact h j (by omega)
def FLM (f : Nat → Int32) (r fm : Int32) (fd fi : Nat → Int32) (fm' : Int32) (fd' fi' : Nat → Int32) : Prop := (r = -1 ∧ fm' = fm ∧ fd' = fd ∧ fi' = fi) ∨ (0 ≤ r.toInt ∧ fm' = r ∧ FRW f r.toInt fd' fi')
theorem FRW_eq {f fd fi : Nat → Int32} {k r : Int32} (h : FRW f k.toInt fd fi) (hr : r ≤ k) : FRW f r.toInt fd fi := by
  have q := Int32.le_iff_toInt_le.mp hr
  exact fun j hj => h j (by omega)
/-- whether it can bear so much -/
def OKB (fd fi : Nat → Int32) (b : Int) (k : Nat) : Prop := (b < (fd k).toInt ∧ fi k = 1) ∨ ((fd k).toInt ≤ b ∧ fi k = 0)
def CBI (fm : Int32) (fd fi : Nat → Int32) (b : Int) : Prop := ∀ k : Nat, (k : Int) < fm.toInt → OKB fd fi b k
def CBR (fm : Int32) (fd fi : Nat → Int32) (b r : Int32) : Prop := (¬ r = 0 ∧ CBI fm fd fi b.toInt) ∨ (r = 0 ∧ ¬ CBI fm fd fi b.toInt)
def CBL (fd fi : Nat → Int32) (b k : Int32) : Prop := ∀ j : Nat, (j : Int) < k.toInt → OKB fd fi b.toInt j
theorem CBL_0 (fd fi : Nat → Int32) (b : Int32) : CBL fd fi b 0 := fun j hj => by
  have z0 : (0 : Int32).toInt = 0 := by decide
  omega
theorem CBL_s {fd fi : Nat → Int32} {b k k' : Int32} (h : CBL fd fi b k) (hk : iR k 0 20) (ek : k' = k + 1) (o : OKB fd fi b.toInt k.toNatClampNeg) : CBL fd fi b k' := by
  intro j hj
  have e := i_add ek hk (iR_c (x := 1) (n := 1) (a := 1) (b := 1) (by decide) (by decide)) (by decide)
  have z1 : (1 : Int32).toInt = 1 := by decide
  have cn := iR_cn hk (by decide)
  by_cases c : j = k.toNatClampNeg
  · rw [c]; exact o
  · exact h j (by omega)
theorem OKB_y {fd fi : Nat → Int32} {b : Int32} {k : Nat} (h : b < fd k) (e : fi k = 1) : OKB fd fi b.toInt k := Or.inl ⟨Int32.lt_iff_toInt_lt.mp h, e⟩
theorem OKB_n {fd fi : Nat → Int32} {b : Int32} {k : Nat} (h : fd k ≤ b) (e : fi k = 0) : OKB fd fi b.toInt k := Or.inr ⟨Int32.le_iff_toInt_le.mp h, e⟩
theorem CB_n1 {fm b k : Int32} {fd fi : Nat → Int32} {a : Int} (hk : iR k 0 a) (hl : k < fm) (h : b < fd k.toNatClampNeg) (e : ¬ fi k.toNatClampNeg = 1) : CBR fm fd fi b 0 := by
  refine Or.inr ⟨rfl, fun q => ?_⟩
  have cn := iR_cn hk (by decide)
  have hl := Int32.lt_iff_toInt_lt.mp hl
  have h := Int32.lt_iff_toInt_lt.mp h
  rcases q k.toNatClampNeg (by omega) with o | o
  · exact e o.2
  · omega
theorem CB_n0 {fm b k : Int32} {fd fi : Nat → Int32} {a : Int} (hk : iR k 0 a) (hl : k < fm) (h : fd k.toNatClampNeg ≤ b) (e : ¬ fi k.toNatClampNeg = 0) : CBR fm fd fi b 0 := by
  refine Or.inr ⟨rfl, fun q => ?_⟩
  have cn := iR_cn hk (by decide)
  have hl := Int32.lt_iff_toInt_lt.mp hl
  have h := Int32.le_iff_toInt_le.mp h
  rcases q k.toNatClampNeg (by omega) with o | o
  · omega
  · exact e o.2
theorem CB_y {fm b k : Int32} {fd fi : Nat → Int32} (h : CBL fd fi b k) (hl : fm ≤ k) : CBR fm fd fi b 1 := by
  have hl := Int32.le_iff_toInt_le.mp hl
  exact Or.inl ⟨by decide, fun j hj => h j (by omega)⟩
/-- both hold the same numbers -/
def BRI (le mo : Int) (fm : Int32) (fd fi : Nat → Int32) : Prop := 1 ≤ le ∧ mo ≤ 999 ∧ ∀ b : Int, 1 ≤ b → b ≤ 999 → ((le ≤ b ∧ b ≤ mo) ↔ CBI fm fd fi b)
def CNI (le mo : Int) : Int := if le ≤ mo then mo - le + 1 else 0
def BYR (le mo : Int) (x r : Int32) : Prop := (x.toInt = 0 ∧ r.toInt = CNI le mo) ∨ (x.toInt = 1 ∧ r.toInt = (if le ≤ mo then le else -1)) ∨ (x.toInt = 2 ∧ r.toInt = (if le ≤ mo then mo else -1)) ∨ (¬ x.toInt = 0 ∧ ¬ x.toInt = 1 ∧ ¬ x.toInt = 2 ∧ r.toInt = -1)
theorem BYR_eq {le mo : Int} {x r r' : Int32} (h : BYR le mo x r) (h' : BYR le mo x r') : r = r' := by
  apply Int32.toInt_inj.mp
  rcases h with h | h | h | h <;> rcases h' with h' | h' | h' | h' <;> omega
/-- the reference's loop over all numbers -/
def BIL (le mo b n ls gr : Int) : Prop := ((mo < le ∨ b ≤ le) → n = 0 ∧ ls = -1 ∧ gr = -1) ∧ ((le ≤ mo ∧ le < b) → n = (if mo < b then mo else b - 1) - le + 1 ∧ ls = le ∧ gr = (if mo < b then mo else b - 1))
theorem BIL_0 {le mo : Int} (h : 1 ≤ le) : BIL le mo (1 : Int32).toInt (0 : Int32).toInt (-1 : Int32).toInt (-1 : Int32).toInt := by
  have z0 : (0 : Int32).toInt = 0 := by decide
  have z1 : (1 : Int32).toInt = 1 := by decide
  have zm : (-1 : Int32).toInt = -1 := by decide
  exact ⟨fun _ => ⟨z0, zm, zm⟩, fun q => by omega⟩
theorem BIL_y {le mo b b' n n' ls ls' gr : Int} (h : BIL le mo b n ls gr) (hb : 1 ≤ b) (hl : 1 ≤ le) (c : le ≤ b ∧ b ≤ mo) (eb : b' = b + 1) (en : n' = n + 1) (el : (ls = -1 ∧ ls' = b) ∨ (¬ ls = -1 ∧ ls' = ls)) : BIL le mo b' n' ls' b := by
  obtain ⟨h1, h2⟩ := h
  refine ⟨fun q => by omega, fun q => ?_⟩
  by_cases d : b = le
  · obtain ⟨a1, a2, a3⟩ := h1 (Or.inr (by omega))
    rcases el with el | el
    · split <;> omega
    · omega
  · obtain ⟨a1, a2, a3⟩ := h2 ⟨by omega, by omega⟩
    rw [if_neg (by omega)] at a1 a3
    rcases el with el | el
    · omega
    · split <;> omega
theorem BIL_n {le mo b b' n ls gr : Int} (h : BIL le mo b n ls gr) (c : ¬ (le ≤ b ∧ b ≤ mo)) (eb : b' = b + 1) : BIL le mo b' n ls gr := by
  obtain ⟨h1, h2⟩ := h
  refine ⟨fun q => h1 (by omega), fun q => ?_⟩
  by_cases d : le < b
  · obtain ⟨a1, a2, a3⟩ := h2 ⟨by omega, d⟩
    split at a1 <;> split <;> omega
  · omega
theorem BIL_e {le mo b n ls gr : Int} (h : BIL le mo b n ls gr) (hm : mo ≤ 999) (hb : 999 < b) : n = CNI le mo ∧ ls = (if le ≤ mo then le else -1) ∧ gr = (if le ≤ mo then mo else -1) := by
  obtain ⟨h1, h2⟩ := h
  unfold CNI
  by_cases c : le ≤ mo
  · obtain ⟨a1, a2, a3⟩ := h2 ⟨c, by omega⟩
    rw [if_pos (by omega)] at a1 a3
    rw [if_pos c, if_pos c, if_pos c]
    exact ⟨by omega, a2, a3⟩
  · obtain ⟨a1, a2, a3⟩ := h1 (Or.inl (by omega))
    rw [if_neg c, if_neg c, if_neg c]
    exact ⟨a1, a2, a3⟩
/-- the class' count -/
def BFR (le mo x r : Int32) : Prop := r.toInt = (if le.toInt < x.toInt then (if mo.toInt - x.toInt + 1 < 0 then 0 else mo.toInt - x.toInt + 1) else (if mo.toInt - le.toInt + 1 < 0 then 0 else mo.toInt - le.toInt + 1))
theorem bfr {le mo x a b c d : Int32} (hl : iR le 1 65535) (hm : iR mo (-1) 999) (hx : iR x 1 65535) (ea : a = if x < le then le else x) (eb : b = mo - a) (ec : c = b + 1) (ed : d = if c < 0 then 0 else c) : BFR le mo x d := by
  have za : a.toInt = if le.toInt < x.toInt then x.toInt else le.toInt := by
    rw [ea]
    by_cases q : x < le
    · have q' := Int32.lt_iff_toInt_lt.mp q
      rw [if_pos q, if_neg (by omega)]
    · have q' : ¬ x.toInt < le.toInt := fun z => q (Int32.lt_iff_toInt_lt.mpr z)
      rw [if_neg q]
      by_cases w : le.toInt < x.toInt
      · rw [if_pos w]
      · rw [if_neg w]; omega
  have ra : iR a 1 65535 := by
    have h1 := hl.1
    have h2 := hl.2
    have h3 := hx.1
    have h4 := hx.2
    refine ⟨?_, ?_⟩ <;> (rw [za]; split <;> omega)
  have rb : iR b (-65536) 998 := iR_sub eb hm ra (by decide)
  have vb := i_sub eb hm ra (by decide)
  have vc := i_add ec rb (iR_c (x := 1) (n := 1) (a := 1) (b := 1) (by decide) (by decide)) (by decide)
  have z1 : (1 : Int32).toInt = 1 := by decide
  have z0 : (0 : Int32).toInt = 0 := by decide
  have zd : d.toInt = if c.toInt < 0 then 0 else c.toInt := by
    rw [ed]
    by_cases q : c < 0
    · have q' := Int32.lt_iff_toInt_lt.mp q
      rw [if_pos q, if_pos (by omega)]; exact z0
    · have q' : ¬ c.toInt < (0 : Int32).toInt := fun z => q (Int32.lt_iff_toInt_lt.mpr z)
      rw [if_neg q, if_neg (by omega)]
  unfold BFR
  rw [zd, vc, vb, za, z1]
  split <;> rfl
theorem bfr_cn {le mo r : Int32} (h : BFR le mo le r) : r.toInt = CNI le.toInt mo.toInt := by
  unfold BFR at h
  rw [if_neg (Int.lt_irrefl _)] at h
  unfold CNI
  by_cases c : le.toInt ≤ mo.toInt
  · rw [if_pos c]; split at h <;> omega
  · rw [if_neg c]; split at h <;> omega
theorem bx_0 {le mo x r : Int32} (h : BFR le mo le r) (c : x.toInt = 0) : BYR le.toInt mo.toInt x r := Or.inl ⟨c, bfr_cn h⟩
theorem bx_1y {le mo x r : Int32} (h : BFR le mo le r) (c : x.toInt = 1) (q : 0 < r) : BYR le.toInt mo.toInt x le := by
  have e := bfr_cn h
  have q := Int32.lt_iff_toInt_lt.mp q
  have z0 : (0 : Int32).toInt = 0 := by decide
  unfold CNI at e
  refine Or.inr (Or.inl ⟨c, ?_⟩)
  split at e
  · next w => rw [if_pos w]
  · omega
theorem bx_1n {le mo x r : Int32} (h : BFR le mo le r) (c : x.toInt = 1) (q : r ≤ 0) : BYR le.toInt mo.toInt x (-1) := by
  have e := bfr_cn h
  have q := Int32.le_iff_toInt_le.mp q
  have z0 : (0 : Int32).toInt = 0 := by decide
  have zm : (-1 : Int32).toInt = -1 := by decide
  unfold CNI at e
  refine Or.inr (Or.inl ⟨c, ?_⟩)
  split at e
  · omega
  · next w => rw [if_neg w]; exact zm
theorem bx_2y {le mo x r : Int32} (h : BFR le mo le r) (c : x.toInt = 2) (q : 0 < r) : BYR le.toInt mo.toInt x mo := by
  have e := bfr_cn h
  have q := Int32.lt_iff_toInt_lt.mp q
  have z0 : (0 : Int32).toInt = 0 := by decide
  unfold CNI at e
  refine Or.inr (Or.inr (Or.inl ⟨c, ?_⟩))
  split at e
  · next w => rw [if_pos w]
  · omega
theorem bx_2n {le mo x r : Int32} (h : BFR le mo le r) (c : x.toInt = 2) (q : r ≤ 0) : BYR le.toInt mo.toInt x (-1) := by
  have e := bfr_cn h
  have q := Int32.le_iff_toInt_le.mp q
  have z0 : (0 : Int32).toInt = 0 := by decide
  have zm : (-1 : Int32).toInt = -1 := by decide
  unfold CNI at e
  refine Or.inr (Or.inr (Or.inl ⟨c, ?_⟩))
  split at e
  · omega
  · next w => rw [if_neg w]; exact zm
theorem bx_3 {le mo x : Int32} (c : ¬ x.toInt = 0 ∧ ¬ x.toInt = 1 ∧ ¬ x.toInt = 2) : BYR le.toInt mo.toInt x (-1) := Or.inr (Or.inr (Or.inr ⟨c.1, c.2.1, c.2.2, by decide⟩))
/-- no FALLS: all numbers -/
theorem BRI_0 {fm : Int32} {fd fi : Nat → Int32} (h : fm = 0) : BRI (1 : Int32).toInt (999 : Int32).toInt fm fd fi := by
  have z0 : (0 : Int32).toInt = 0 := by decide
  have z1 : (1 : Int32).toInt = 1 := by decide
  have z9 : (999 : Int32).toInt = 999 := by decide
  refine ⟨by omega, by omega, fun b b1 b2 => ⟨fun _ k hk => ?_, fun _ => by omega⟩⟩
  rw [h] at hk
  omega
theorem BRI_f {f g : Nat → Int32} {n m r r2 le mo le' mo' fm fm' : Int32} {fd fi fd' fi' : Nat → Int32} (ht : TRL f g n m) (hf : aR g 0 255) (h1 : FLR f n r) (h2 : FLR g m r2) (hx : FLX f r le mo le' mo') (hm : FLM g r2 fm fd fi fm' fd' fi') (hb : BRI le.toInt mo.toInt fm fd fi) : BRI le'.toInt mo'.toInt fm' fd' fi' := by
  have e := TRL_falls ht h1 h2
  obtain ⟨e2, hk⟩ := ht
  subst e
  subst e2
  have zm : (-1 : Int32).toInt = -1 := by decide
  rcases hx with ⟨a1, a2, a3⟩ | ⟨a1, a2⟩
  · rcases hm with ⟨b1, b2, b3, b4⟩ | ⟨b1, b2, b3⟩
    · rw [a2, a3, b2, b3, b4]; exact hb
    · rw [a1] at b1; omega
  · rcases hm with ⟨b1, b2, b3, b4⟩ | ⟨b1, b2, b3⟩
    · rw [b1] at a1; omega
    · rcases h2 with ⟨c1, c2⟩ | ⟨c1, c2⟩
      · obtain ⟨d1, d2, d3⟩ := a2
        obtain ⟨u1, u2, u3, u4⟩ := c1
        refine ⟨d1, d2, fun b b1' b2' => ?_⟩
        rw [d3 b b1' b2', b2]
        constructor
        · intro q k hk9
          have w := q k hk9
          have v := b3 k hk9
          have l2 := u4 k (by omega)
          have l1 := hf (3 * k + 2)
          unfold iR at l1
          have g0 := hk (3 * k) (by omega)
          have g1 := hk (3 * k + 1) (by omega)
          have g2 := hk (3 * k + 2) (by omega)
          unfold FTB DD at w
          rw [g0, g1, g2] at w
          unfold DD at v
          rcases w with w | w
          · exact Or.inl ⟨by omega, v.2.trans w.1⟩
          · refine Or.inr ⟨by omega, v.2.trans ?_⟩
            apply Int32.toInt_inj.mp
            have z0 : (0 : Int32).toInt = 0 := by decide
            have z1 : (1 : Int32).toInt = 1 := by decide
            have n1 : ¬ (g (3 * k + 2)).toInt = (1 : Int32).toInt := fun z => w.1 (Int32.toInt_inj.mp z)
            omega
        · intro q k hk9
          have w := q k hk9
          have v := b3 k hk9
          have g0 := hk (3 * k) (by omega)
          have g1 := hk (3 * k + 1) (by omega)
          have g2 := hk (3 * k + 2) (by omega)
          unfold FTB DD
          rw [g0, g1, g2]
          unfold DD at v
          rcases w with w | w
          · exact Or.inl ⟨v.2.symm.trans w.2, by omega⟩
          · refine Or.inr ⟨fun z => ?_, by omega⟩
            have y := v.2.symm.trans w.2
            rw [z] at y; exact absurd y (by decide)
      · rw [c2] at a1; omega
def SHB (r le mo le' mo' : Int32) : Prop := (r = -1 ∧ le' = le ∧ mo' = mo) ∨ (¬ r = -1 ∧ le' = 1 ∧ mo' = 999)
def SHF (r fm fm' : Int32) : Prop := (r = -1 ∧ fm' = fm) ∨ (¬ r = -1 ∧ fm' = 0)
theorem BRI_s {r r' le mo le' mo' fm fm' : Int32} {fd fi : Nat → Int32} (e : r = r') (h : SHB r le mo le' mo') (h' : SHF r' fm fm') (hb : BRI le.toInt mo.toInt fm fd fi) : BRI le'.toInt mo'.toInt fm' fd fi := by
  subst e
  rcases h with ⟨a1, a2, a3⟩ | ⟨a1, a2, a3⟩
  · rcases h' with ⟨b1, b2⟩ | ⟨b1, b2⟩
    · rw [a2, a3, b2]; exact hb
    · exact absurd a1 b1
  · rcases h' with ⟨b1, b2⟩ | ⟨b1, b2⟩
    · exact absurd b1 a1
    · rw [a2, a3]; exact BRI_0 b2
theorem lm_mn {mo b mo' : Int32} {d : Int} (e : mo' = if mo < b then mo else b) (hb : b.toInt = d - 1) : mo'.toInt = (if mo.toInt < d - 1 then mo.toInt else d - 1) := by
  rw [e]
  by_cases q : mo < b
  · have q' := Int32.lt_iff_toInt_lt.mp q
    rw [if_pos q, if_pos (by omega)]
  · have q' : ¬ mo.toInt < b.toInt := fun z => q (Int32.lt_iff_toInt_lt.mpr z)
    rw [if_neg q, if_neg (by omega)]; exact hb
theorem lm_mx {le b le' : Int32} {d : Int} (e : le' = if b < le then le else b) (hb : b.toInt = d) : le'.toInt = (if le.toInt < d then d else le.toInt) := by
  rw [e]
  by_cases q : b < le
  · have q' := Int32.lt_iff_toInt_lt.mp q
    rw [if_pos q, if_neg (by omega)]
  · have q' : ¬ b.toInt < le.toInt := fun z => q (Int32.lt_iff_toInt_lt.mpr z)
    rw [if_neg q]
    by_cases w : le.toInt < d
    · rw [if_pos w]; exact hb
    · rw [if_neg w]; omega
theorem CBR_n {fm b r : Int32} {fd fi : Nat → Int32} (h : CBR fm fd fi b r) (e : r = 0) : ¬ CBI fm fd fi b.toInt := by
  rcases h with h | h
  · exact absurd e h.1
  · exact h.2
theorem CBR_y {fm b r : Int32} {fd fi : Nat → Int32} (h : CBR fm fd fi b r) (e : ¬ r = 0) : CBI fm fd fi b.toInt := by
  rcases h with h | h
  · exact h.2
  · exact absurd h.1 e
section
variable {le mo : Int} {x r : Int32} {n ls gr : Int32}
theorem byr_n (h : ¬ (0 ≤ x ∧ x ≤ 2)) : BYR le mo x (-1) := by
  have z0 : (0 : Int32).toInt = 0 := by decide
  have z2 : (2 : Int32).toInt = 2 := by decide
  have q : ¬ (0 ≤ x.toInt ∧ x.toInt ≤ 2) := fun w => h ⟨Int32.le_iff_toInt_le.mpr (by omega), Int32.le_iff_toInt_le.mpr (by omega)⟩
  exact Or.inr (Or.inr (Or.inr ⟨by omega, by omega, by omega, by decide⟩))
theorem byr_0 (h : x = 0) (e : n.toInt = CNI le mo ∧ ls.toInt = (if le ≤ mo then le else -1) ∧ gr.toInt = (if le ≤ mo then mo else -1)) : BYR le mo x n := Or.inl ⟨by rw [h]; decide, e.1⟩
theorem byr_1 (h : x = 1) (e : n.toInt = CNI le mo ∧ ls.toInt = (if le ≤ mo then le else -1) ∧ gr.toInt = (if le ≤ mo then mo else -1)) : BYR le mo x ls := Or.inr (Or.inl ⟨by rw [h]; decide, e.2.1⟩)
theorem byr_2 (h : 0 ≤ x ∧ x ≤ 2) (h0 : ¬ x = 0) (h1 : ¬ x = 1) (e : n.toInt = CNI le mo ∧ ls.toInt = (if le ≤ mo then le else -1) ∧ gr.toInt = (if le ≤ mo then mo else -1)) : BYR le mo x gr := by
  have z0 : (0 : Int32).toInt = 0 := by decide
  have z1 : (1 : Int32).toInt = 1 := by decide
  have z2 : (2 : Int32).toInt = 2 := by decide
  have a := Int32.le_iff_toInt_le.mp h.1
  have b := Int32.le_iff_toInt_le.mp h.2
  have c0 : ¬ x.toInt = (0 : Int32).toInt := fun z => h0 (Int32.toInt_inj.mp z)
  have c1 : ¬ x.toInt = (1 : Int32).toInt := fun z => h1 (Int32.toInt_inj.mp z)
  exact Or.inr (Or.inr (Or.inl ⟨by omega, e.2.2⟩))
end
/-! the same, as the rows of the library's max and min stand -/
theorem lm_mn2 {mo b mo' : Int32} {d : Int} (e : mo' = if b < mo then b else mo) (hb : b.toInt = d - 1) : mo'.toInt = (if mo.toInt < d - 1 then mo.toInt else d - 1) := by
  rw [e]
  by_cases q : b < mo
  · have q' := Int32.lt_iff_toInt_lt.mp q
    rw [if_pos q, if_neg (by omega)]; exact hb
  · have q' : ¬ b.toInt < mo.toInt := fun z => q (Int32.lt_iff_toInt_lt.mpr z)
    rw [if_neg q]
    by_cases w : mo.toInt < d - 1
    · rw [if_pos w]
    · rw [if_neg w]; omega
theorem lm_mx2 {le b le' : Int32} {d : Int} (e : le' = if le < b then b else le) (hb : b.toInt = d) : le'.toInt = (if le.toInt < d then d else le.toInt) := by
  rw [e]
  by_cases q : le < b
  · have q' := Int32.lt_iff_toInt_lt.mp q
    rw [if_pos q, if_pos (by omega)]; exact hb
  · have q' : ¬ le.toInt < b.toInt := fun z => q (Int32.lt_iff_toInt_lt.mpr z)
    rw [if_neg q, if_neg (by omega)]
theorem bfr2 {le mo x a b c d : Int32} (hl : iR le 1 65535) (hm : iR mo (-1) 999) (hx : iR x 1 65535) (ea : a = if le < x then x else le) (eb : b = mo - a) (ec : c = b + 1) (ed : d = if 0 < c then c else 0) : BFR le mo x d := by
  have ea' : a = if x < le then le else x := by
    rw [ea]
    by_cases q : le < x
    · have q' := Int32.lt_iff_toInt_lt.mp q
      rw [if_pos q, if_neg (fun z => by have z' := Int32.lt_iff_toInt_lt.mp z; omega)]
    · have q' : ¬ le.toInt < x.toInt := fun z => q (Int32.lt_iff_toInt_lt.mpr z)
      rw [if_neg q]
      by_cases w : x < le
      · rw [if_pos w]
      · have w' : ¬ x.toInt < le.toInt := fun z => w (Int32.lt_iff_toInt_lt.mpr z)
        rw [if_neg w]
        exact Int32.toInt_inj.mp (by omega)
  have ed' : d = if c < 0 then 0 else c := by
    rw [ed]
    have z0 : (0 : Int32).toInt = 0 := by decide
    by_cases q : 0 < c
    · have q' := Int32.lt_iff_toInt_lt.mp q
      rw [if_pos q, if_neg (fun z => by have z' := Int32.lt_iff_toInt_lt.mp z; omega)]
    · have q' : ¬ (0 : Int32).toInt < c.toInt := fun z => q (Int32.lt_iff_toInt_lt.mpr z)
      rw [if_neg q]
      by_cases w : c < 0
      · rw [if_pos w]
      · have w' : ¬ c.toInt < (0 : Int32).toInt := fun z => w (Int32.lt_iff_toInt_lt.mpr z)
        rw [if_neg w]
        exact Int32.toInt_inj.mp (by omega)
  exact bfr hl hm hx ea' eb ec ed'
