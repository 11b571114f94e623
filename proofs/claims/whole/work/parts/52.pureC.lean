/-! PURE C: the moves of a tank's bits; the bit that drops -/
/-- the forward distance of a move, as a natural below 640 -/
def fwd (k : Int32) : Nat := (k.toInt % 640).toNat
theorem fwd_lt (k : Int32) : fwd k < 640 := by unfold fwd; omega
theorem fwd_toInt (k : Int32) : (fwd k : Int) = k.toInt % 640 := by unfold fwd; omega
/-! the reference: bit after bit -/
theorem mvIx {k : Int32} {x : Nat} (hx : x < 640) (hk : -1000000000 ≤ k.toInt ∧ k.toInt ≤ 1000000000) :
    (0 ≤ ((nI x + k) % 640) → (((nI x + k) % 640)).toNatClampNeg = (x + fwd k) % 640) ∧ (¬ 0 ≤ ((nI x + k) % 640) → ((((nI x + k) % 640) + 640)).toNatClampNeg = (x + fwd k) % 640) := by
  have e0 : (0 : Int32).toInt = 0 := by decide
  have e6 : (640 : Int32).toInt = 640 := by decide
  have ex := nI_toInt (n := x) (by omega)
  have ea := gI_add (x := nI x) (y := k) (by omega) (by omega)
  have em : ((nI x + k) % 640).toInt = (nI x + k).toInt.tmod 640 := by rw [Int32.toInt_mod, e6]
  have ef := fwd_toInt k
  have eb := tmod_bounds (a := (nI x + k).toInt) (M := 640) (by decide)
  have ed : (nI x + k).toInt.tmod 640 = (nI x + k).toInt - 640 * (nI x + k).toInt.tdiv 640 := by
    have := Int.tmod_add_mul_tdiv (nI x + k).toInt 640
    omega
  generalize (nI x + k).toInt.tdiv 640 = d at *
  constructor
  · intro h
    rw [gI_le] at h
    exact gClamp (by omega)
  · intro h
    rw [gI_le] at h
    have eg := gI_add (x := (nI x + k) % 640) (y := 640) (by omega) (by omega)
    exact gClamp (by omega)
theorem mvRing {w ring : Nat → Int32} {B : Nat → Nat} {t : Nat} {k : Int32} (ht : t < 8) (hB : ∀ c, c < 32 → w (414 + 32 * t + c) = nI (B c) ∧ B c < 1048576) (hk : -1000000000 ≤ k.toInt ∧ k.toInt ≤ 1000000000) :
    ∀ n, n ≤ 640 → ∀ x, x < n → it_X7_moves_2 w ring (nI t) k n ((x + fwd k) % 640) = nI (pb B x) := by
  intro n
  induction n with
  | zero => intro _ x hx; omega
  | succ n ih =>
    intro hn x hx
    obtain ⟨i1, i2⟩ := mvIx (k := k) (x := n) (by omega) hk
    obtain ⟨d1, d2⟩ := divmod20 (k := n) (by omega)
    obtain ⟨b1, b2⟩ := hB (n / 20) (by omega)
    have hb : ((w (Int32.toNatClampNeg ((414 + (32 * nI t)) + ((nI n) / 20)))) >>> (((nI n) % 20) &&& 31)) &&& 1 = nI (pb B n) := by
      rw [d1, d2, ix414t, nI_clamp (by omega), b1, bit_nI (by omega) (by omega)]
      rfl
    have hst : it_X7_moves_2 w ring (nI t) k (n + 1) = upd (it_X7_moves_2 w ring (nI t) k n) ((n + fwd k) % 640) (nI (pb B n)) := by
      show st_X7_moves_2 w (nI t) k n (it_X7_moves_2 w ring (nI t) k n) = _
      unfold st_X7_moves_2
      rw [hb]
      split
      · next h => rw [i1 h]
      · next h => rw [i2 h]
    rw [hst]
    have hf := fwd_lt k
    by_cases e : x = n
    · subst e; rw [pus]
    · rw [pu (by omega)]
      exact ih (by omega) x (by omega)
theorem mvRing640 {w ring : Nat → Int32} {B : Nat → Nat} {t : Nat} {k : Int32} (ht : t < 8) (hB : ∀ c, c < 32 → w (414 + 32 * t + c) = nI (B c) ∧ B c < 1048576) (hk : -1000000000 ≤ k.toInt ∧ k.toInt ≤ 1000000000) {y : Nat} (hy : y < 640) :
    it_X7_moves_2 w ring (nI t) k 640 y = nI (pb B ((y + 640 - fwd k) % 640)) := by
  have hf := fwd_lt k
  have h := mvRing (ring := ring) ht hB hk 640 (Nat.le_refl _) ((y + 640 - fwd k) % 640) (by omega)
  have e : ((y + 640 - fwd k) % 640 + fwd k) % 640 = y := by omega
  rw [e] at h
  exact h
/-- twenty bits as a number, the first the lowest -/
def hor (g : Nat → Nat) (c : Nat) : Nat → Nat
  | 0 => 0
  | n + 1 => 2 * hor g (c + 1) n + g c
theorem hor_lt {g : Nat → Nat} (h : ∀ i, g i < 2) : ∀ n c, hor g c n < 2 ^ n := by
  intro n
  induction n with
  | zero => intro c; exact Nat.one_pos
  | succ n ih =>
    intro c
    show 2 * hor g (c + 1) n + g c < 2 ^ (n + 1)
    have h1 := ih (c + 1)
    have h2 := h c
    rw [Nat.pow_succ]
    omega
theorem hor_bit {g : Nat → Nat} (h : ∀ i, g i < 2) : ∀ n c i, i < n → hor g c n / 2 ^ i % 2 = g (c + i) := by
  intro n
  induction n with
  | zero => intro c i hi; omega
  | succ n ih =>
    intro c i hi
    show (2 * hor g (c + 1) n + g c) / 2 ^ i % 2 = g (c + i)
    have h2 := h c
    cases i with
    | zero => simp only [Nat.pow_zero, Nat.div_one, Nat.add_zero]; omega
    | succ i =>
      have e1 : (2 * hor g (c + 1) n + g c) / 2 ^ (i + 1) = hor g (c + 1) n / 2 ^ i := by
        rw [Nat.pow_succ, Nat.mul_comm (2 ^ i) 2, ← Nat.div_div_eq_div_mul]
        congr 1
        omega
      rw [e1, ih (c + 1) i (by omega)]
      congr 1
      omega
def horI (r : Nat → Int32) (c : Nat) : Nat → Int32
  | 0 => 0
  | n + 1 => 2 * horI r (c + 1) n + r c
theorem horI_nI {r : Nat → Int32} {g : Nat → Nat} : ∀ n c, (∀ i, i < n → r (c + i) = nI (g (c + i))) → horI r c n = nI (hor g c n) := by
  intro n
  induction n with
  | zero => intro c _; rfl
  | succ n ih =>
    intro c h
    show 2 * horI r (c + 1) n + r c = nI (2 * hor g (c + 1) n + g c)
    have h0 := h 0 (by omega)
    rw [Nat.add_zero] at h0
    have l2 : (2 : Int32) = nI 2 := rfl
    rw [ih (c + 1) (fun i hi => by
      have q := h (i + 1) (by omega)
      have e : c + (i + 1) = c + 1 + i := by omega
      rw [e] at q
      exact q), h0, l2, pk_mul, nI_add]
theorem ix20 (k j : Nat) (h : 20 * k + j < 2147483648) : (20 * nI k + nI j).toNatClampNeg = 20 * k + j := by
  have l : (20 : Int32) = nI 20 := rfl
  rw [l, pk_mul, nI_add, nI_clamp (by omega)]
theorem st72 (w ring v : Nat → Int32) (p0 p1 : Int32) {k : Nat} (hk : k < 32) : st_X7_moves_72 w ring p0 p1 k v = upd v (Int32.toNatClampNeg ((414 + (32 * p0)) + (nI k))) (horI (it_X7_moves_2 w ring p0 p1 640) (20 * k) 20) := by
  unfold st_X7_moves_72
  generalize it_X7_moves_2 w ring p0 p1 640 = r
  have h0 : (20 * nI k + 0).toNatClampNeg = 20 * k + 0 := ix20 k 0 (by omega)
  have h1 : (20 * nI k + 1).toNatClampNeg = 20 * k + 1 := ix20 k 1 (by omega)
  have h2 : (20 * nI k + 2).toNatClampNeg = 20 * k + 2 := ix20 k 2 (by omega)
  have h3 : (20 * nI k + 3).toNatClampNeg = 20 * k + 3 := ix20 k 3 (by omega)
  have h4 : (20 * nI k + 4).toNatClampNeg = 20 * k + 4 := ix20 k 4 (by omega)
  have h5 : (20 * nI k + 5).toNatClampNeg = 20 * k + 5 := ix20 k 5 (by omega)
  have h6 : (20 * nI k + 6).toNatClampNeg = 20 * k + 6 := ix20 k 6 (by omega)
  have h7 : (20 * nI k + 7).toNatClampNeg = 20 * k + 7 := ix20 k 7 (by omega)
  have h8 : (20 * nI k + 8).toNatClampNeg = 20 * k + 8 := ix20 k 8 (by omega)
  have h9 : (20 * nI k + 9).toNatClampNeg = 20 * k + 9 := ix20 k 9 (by omega)
  have h10 : (20 * nI k + 10).toNatClampNeg = 20 * k + 10 := ix20 k 10 (by omega)
  have h11 : (20 * nI k + 11).toNatClampNeg = 20 * k + 11 := ix20 k 11 (by omega)
  have h12 : (20 * nI k + 12).toNatClampNeg = 20 * k + 12 := ix20 k 12 (by omega)
  have h13 : (20 * nI k + 13).toNatClampNeg = 20 * k + 13 := ix20 k 13 (by omega)
  have h14 : (20 * nI k + 14).toNatClampNeg = 20 * k + 14 := ix20 k 14 (by omega)
  have h15 : (20 * nI k + 15).toNatClampNeg = 20 * k + 15 := ix20 k 15 (by omega)
  have h16 : (20 * nI k + 16).toNatClampNeg = 20 * k + 16 := ix20 k 16 (by omega)
  have h17 : (20 * nI k + 17).toNatClampNeg = 20 * k + 17 := ix20 k 17 (by omega)
  have h18 : (20 * nI k + 18).toNatClampNeg = 20 * k + 18 := ix20 k 18 (by omega)
  have h19 : (20 * nI k + 19).toNatClampNeg = 20 * k + 19 := ix20 k 19 (by omega)
  rw [h0, h1, h2, h3, h4, h5, h6, h7, h8, h9, h10, h11, h12, h13, h14, h15, h16, h17, h18, h19]
  rfl
/-- the words of the reference's tank after a move -/
theorem mvWords {w ring : Nat → Int32} {B : Nat → Nat} {t : Nat} {k : Int32} (ht : t < 8) (hB : ∀ c, c < 32 → w (414 + 32 * t + c) = nI (B c) ∧ B c < 1048576) (hk : -1000000000 ≤ k.toInt ∧ k.toInt ≤ 1000000000) :
    ∀ n, n ≤ 32 → ∀ c, c < n → it_X7_moves_72 w ring (nI t) k n (414 + 32 * t + c) = nI (hor (fun y => pb B ((y + 640 - fwd k) % 640)) (20 * c) 20) := by
  intro n
  induction n with
  | zero => intro _ c hc; omega
  | succ n ih =>
    intro hn c hc
    show st_X7_moves_72 w ring (nI t) k n (it_X7_moves_72 w ring (nI t) k n) _ = _
    rw [st72 w ring _ (nI t) k (by omega), ix414t, nI_clamp (by omega)]
    by_cases e : c = n
    · subst e
      rw [pus]
      exact horI_nI 20 (20 * c) (fun i hi => mvRing640 ht hB hk (by omega))
    · rw [pu (by omega)]
      exact ih (by omega) c (by omega)
/-! the class: two words shifted and joined -/
theorem sg_xor (x y : Int32) : (0 ≤ x ^^^ y) ↔ (x.toInt < 0 ↔ y.toInt < 0) := by
  have e0 : (0 : Int32).toInt = 0 := by decide
  have h := BitVec.msb_xor (x := x.toBitVec) (y := y.toBitVec)
  have h1 : x.toBitVec.msb = decide (x.toInt < 0) := BitVec.msb_eq_toInt
  have h2 : y.toBitVec.msb = decide (y.toInt < 0) := BitVec.msb_eq_toInt
  have h3 : (x.toBitVec ^^^ y.toBitVec).msb = decide ((x ^^^ y).toInt < 0) := BitVec.msb_eq_toInt
  rw [h3, h1, h2] at h
  rw [gI_le, e0]
  by_cases a : x.toInt < 0 <;> by_cases b : y.toInt < 0 <;> by_cases c : (x ^^^ y).toInt < 0 <;> simp [a, b, c] at h ⊢ <;> omega
theorem floorMod_640 {k : Int32} : f_J9_floorMod_7cf53 k 640 = nI (fwd k) := gI_ext (by
  have e0 : (0 : Int32).toInt = 0 := by decide
  have e6 : (640 : Int32).toInt = 640 := by decide
  have hf := fwd_lt k
  have ef := fwd_toInt k
  have em : (k % 640).toInt = k.toInt.tmod 640 := by rw [Int32.toInt_mod, e6]
  have ed : k.toInt.tmod 640 = k.toInt - 640 * k.toInt.tdiv 640 := by
    have := Int.tmod_add_mul_tdiv k.toInt 640
    omega
  have eb := tmod_bounds (a := k.toInt) (M := 640) (by decide)
  have en := nI_toInt (n := fwd k) (by omega)
  have sg1 : k.toInt.tmod 640 < 0 → k.toInt < 0 := fun q => by
    rcases Int.lt_or_le k.toInt 0 with z | z
    · exact z
    · have := Int.tmod_nonneg 640 z; omega
  have sg2 : 0 < k.toInt.tmod 640 → 0 ≤ k.toInt := fun q => by
    rcases Int.lt_or_le k.toInt 0 with z | z
    · exfalso
      have h9 : (-(-k.toInt)).tmod 640 = -((-k.toInt).tmod 640) := Int.neg_tmod ..
      rw [Int.neg_neg] at h9
      have := Int.tmod_nonneg 640 (a := -k.toInt) (by omega)
      omega
    · exact z
  generalize k.toInt.tdiv 640 = d at *
  unfold f_J9_floorMod_7cf53
  rw [en]
  split
  · next h => rw [sg_xor, e6] at h; omega
  · next h =>
    rw [sg_xor, e6] at h
    split
    · next z =>
      have z2 := congrArg Int32.toInt z
      omega
    · next z =>
      have z2 : ¬ (k % 640).toInt = 0 := fun q => z (gI_ext (by rw [q, e0]))
      have ea := gI_add (x := k % 640) (y := 640) (by omega) (by omega)
      omega)
theorem mvOld {bits ring : Nat → Int32} {B : Nat → Nat} {t : Nat} (ht : t < 8) (hB : ∀ c, c < 32 → bits (32 * t + c) = nI (B c) ∧ B c < 1048576) :
    ∀ n, n ≤ 32 → ∀ c, c < n → it_X5_moveBits_28 bits ring (nI t) n c = nI (B c) := by
  intro n
  induction n with
  | zero => intro _ c hc; omega
  | succ n ih =>
    intro hn c hc
    show st_X5_moveBits_28 bits (nI t) n (it_X5_moveBits_28 bits ring (nI t) n) c = _
    unfold st_X5_moveBits_28
    by_cases e : c = n
    · subst e
      rw [pus, locOf_nI, ix255 (by omega)]
      exact (hB c (by omega)).1
    · rw [pu e]
      exact ih (by omega) c (by omega)
/-- two words joined: the bits of a tank from a place on -/
def join2 (a b s : Nat) : Nat := ((a * 2 ^ s) ||| (b / 2 ^ (20 - s))) % 2 ^ 20
theorem join2_bit {a b s i : Nat} (hb : b < 1048576) (hs : s < 20) (hi : i < 20) : join2 a b s / 2 ^ i % 2 = if s ≤ i then a / 2 ^ (i - s) % 2 else b / 2 ^ (20 - s + i) % 2 := by
  have hbt : ∀ (x j : Nat), (x / 2 ^ j % 2 = 1) = (x.testBit j = true) := fun x j => by rw [Nat.testBit_eq_decide_div_mod_eq, decide_eq_true_eq]
  have key : (join2 a b s).testBit i = if s ≤ i then a.testBit (i - s) else b.testBit (20 - s + i) := by
    unfold join2
    rw [Nat.testBit_mod_two_pow, Nat.testBit_or, Nat.testBit_mul_two_pow, Nat.testBit_div_two_pow]
    by_cases h : s ≤ i
    · rw [if_pos h]
      have h9 : b.testBit (i + (20 - s)) = false := Nat.testBit_lt_two_pow (Nat.lt_of_lt_of_le hb (by
        show 2 ^ 20 ≤ 2 ^ (i + (20 - s))
        exact Nat.pow_le_pow_right (by decide) (by omega)))
      rw [h9]
      simp [hi, h]
    · rw [if_neg h]
      have e : i + (20 - s) = 20 - s + i := by omega
      rw [e]
      simp [hi, h]
  have h1 := hbt (join2 a b s) i
  by_cases h : s ≤ i
  · rw [if_pos h] at key ⊢
    have h2 := hbt a (i - s)
    rw [key] at h1
    have : (join2 a b s / 2 ^ i % 2 = 1) = (a / 2 ^ (i - s) % 2 = 1) := by rw [h1, h2]
    have m1 := Nat.mod_lt (join2 a b s / 2 ^ i) (show 0 < 2 by decide)
    have m2 := Nat.mod_lt (a / 2 ^ (i - s)) (show 0 < 2 by decide)
    by_cases q : a / 2 ^ (i - s) % 2 = 1
    · rw [q] at this ⊢; rw [this]
    · have q2 : ¬ join2 a b s / 2 ^ i % 2 = 1 := by rw [this]; exact q
      omega
  · rw [if_neg h] at key ⊢
    have h2 := hbt b (20 - s + i)
    rw [key] at h1
    have : (join2 a b s / 2 ^ i % 2 = 1) = (b / 2 ^ (20 - s + i) % 2 = 1) := by rw [h1, h2]
    have m1 := Nat.mod_lt (join2 a b s / 2 ^ i) (show 0 < 2 by decide)
    have m2 := Nat.mod_lt (b / 2 ^ (20 - s + i)) (show 0 < 2 by decide)
    by_cases q : b / 2 ^ (20 - s + i) % 2 = 1
    · rw [q] at this ⊢; rw [this]
    · have q2 : ¬ join2 a b s / 2 ^ i % 2 = 1 := by rw [this]; exact q
      omega
theorem bits_ext {x y : Nat} (hx : x < 1048576) (hy : y < 1048576) (h : ∀ i, i < 20 → x / 2 ^ i % 2 = y / 2 ^ i % 2) : x = y := by
  apply Nat.eq_of_testBit_eq
  intro i
  by_cases hi : i < 20
  · rw [Nat.testBit_eq_decide_div_mod_eq, Nat.testBit_eq_decide_div_mod_eq, h i hi]
  · have hp : (2 : Nat) ^ 20 ≤ 2 ^ i := Nat.pow_le_pow_right (by decide) (by omega)
    rw [Nat.testBit_lt_two_pow (Nat.lt_of_lt_of_le hx hp), Nat.testBit_lt_two_pow (Nat.lt_of_lt_of_le hy hp)]
theorem join2_lt (a b s : Nat) : join2 a b s < 1048576 := Nat.mod_lt _ (by decide)
/-- the reference's word is the class's word -/
theorem mvEq {B : Nat → Nat} {f c : Nat} (hB : ∀ c, c < 32 → B c < 1048576) (hf : f < 640) (hc : c < 32) :
    hor (fun y => pb B ((y + 640 - f) % 640)) (20 * c) 20 = join2 (B ((c + 32 - f / 20) % 32)) (B ((c + 63 - f / 20) % 32)) (f % 20) := by
  have hg : ∀ i, (fun y => pb B ((y + 640 - f) % 640)) i < 2 := fun i => pb_lt B _
  refine bits_ext (hor_lt hg 20 _) (join2_lt _ _ _) (fun i hi => ?_)
  rw [hor_bit hg 20 (20 * c) i hi, join2_bit (hB _ (by omega)) (by omega) hi]
  show pb B ((20 * c + i + 640 - f) % 640) = _
  unfold pb
  by_cases h : f % 20 ≤ i
  · rw [if_pos h]
    have e1 : (20 * c + i + 640 - f) % 640 / 20 = (c + 32 - f / 20) % 32 := by omega
    have e2 : (20 * c + i + 640 - f) % 640 % 20 = i - f % 20 := by omega
    rw [e1, e2]
  · rw [if_neg h]
    have e1 : (20 * c + i + 640 - f) % 640 / 20 = (c + 63 - f / 20) % 32 := by omega
    have e2 : (20 * c + i + 640 - f) % 640 % 20 = 20 - f % 20 + i := by omega
    rw [e1, e2]
theorem cyc_sub {a b : Nat} (ha : a < 1000) (hb : b < 32) : f_X6_cycleOf (nI a - nI b) = nI ((a + 32 - b) % 32) := gI_ext (by
  unfold f_X6_cycleOf
  rw [gI_and31, pk_sub_toInt (by omega) (by omega), nI_toInt (by omega)]
  omega)
theorem cyc_sub1 {a b : Nat} (ha : a < 1000) (hb : b < 32) : f_X6_cycleOf (nI a - nI b - 1) = nI ((a + 63 - b) % 32) := gI_ext (by
  unfold f_X6_cycleOf
  have e1 : (1 : Int32).toInt = 1 := by decide
  have e2 := pk_sub_toInt (a := a) (b := b) (by omega) (by omega)
  rw [gI_and31, gI_sub (by omega) (by omega), e2, e1, nI_toInt (by omega)]
  omega)
theorem mvJoin {a b s : Nat} (ha : a < 1048576) (hb : b < 1048576) (hs : s < 20) : ((nI a <<< (nI s &&& 31)) ||| (nI b >>> ((20 - nI s) &&& 31))) &&& 1048575 = nI (join2 a b s) := by
  have l20 : (20 : Int32) = nI 20 := rfl
  have hp : 2 ^ s ≤ 2 ^ 19 := Nat.pow_le_pow_right (by decide) (by omega)
  have hm : a * 2 ^ s < 2 ^ 39 := by
    have h1 : a * 2 ^ s ≤ a * 2 ^ 19 := Nat.mul_le_mul_left _ hp
    have h2 : (2 : Nat) ^ 19 = 524288 := by decide
    have h3 : (2 : Nat) ^ 39 = 549755813888 := by decide
    omega
  have e1 : nI a <<< (nI s &&& 31) = nI (a * 2 ^ s) := by
    apply Int32.toBitVec_inj.mp
    apply BitVec.eq_of_toNat_eq
    rw [pk_shl _ _ s (shAmt s (by omega)), pk_tn (by omega)]
    show _ = (BitVec.ofNat 32 (a * 2 ^ s)).toNat
    rw [BitVec.toNat_ofNat]
  rw [e1, l20, pk_sub (by omega), shr_nI (by omega) (by omega), nI_or]
  show nI (a * 2 ^ s ||| b / 2 ^ (20 - s)) &&& nI 1048575 = _
  rw [nI_and]
  exact congrArg nI (Nat.and_two_pow_sub_one_eq_mod _ 20)
theorem mvNew {bits ring : Nat → Int32} {B : Nat → Nat} {t : Nat} {k : Int32} (ht : t < 8) (hB : ∀ c, c < 32 → bits (32 * t + c) = nI (B c) ∧ B c < 1048576) :
    ∀ n, n ≤ 32 → ∀ c, c < n → it_X5_moveBits_66 bits ring (nI t) k n (32 * t + c) = nI (join2 (B ((c + 32 - fwd k / 20) % 32)) (B ((c + 63 - fwd k / 20) % 32)) (fwd k % 20)) := by
  intro n
  induction n with
  | zero => intro _ c hc; omega
  | succ n ih =>
    intro hn c hc
    have hf := fwd_lt k
    obtain ⟨d1, d2⟩ := divmod20 (k := fwd k) (by omega)
    show st_X5_moveBits_66 bits ring (nI t) k n (it_X5_moveBits_66 bits ring (nI t) k n) _ = _
    unfold st_X5_moveBits_66
    rw [floorMod_640, locOf_nI, ix255 (by omega), d1, d2]
    by_cases e : c = n
    · subst e
      rw [pus, cyc_sub (by omega) (by omega), cyc_sub1 (by omega) (by omega), nI_clamp (by omega), nI_clamp (by omega), mvOld ht hB 32 (Nat.le_refl _) _ (by omega), mvOld ht hB 32 (Nat.le_refl _) _ (by omega)]
      exact mvJoin (hB _ (by omega)).2 (hB _ (by omega)).2 (by omega)
    · rw [pu (by omega)]
      exact ih (by omega) c (by omega)
theorem mv66_ne {bits ring : Nat → Int32} {t : Nat} {k : Int32} (ht : t < 8) {j : Nat} (hj : ∀ c, c < 32 → j ≠ 32 * t + c) : ∀ n, n ≤ 32 → it_X5_moveBits_66 bits ring (nI t) k n j = bits j := by
  intro n
  induction n with
  | zero => intro _; rfl
  | succ n ih =>
    intro hn
    show st_X5_moveBits_66 bits ring (nI t) k n (it_X5_moveBits_66 bits ring (nI t) k n) j = _
    unfold st_X5_moveBits_66
    rw [locOf_nI, ix255 (by omega), pu (hj n (by omega))]
    exact ih (by omega)
theorem Tk_cl {t : Nat} (ht : t < 8) : (nI t).toNatClampNeg = t := nI_clamp (by omega)
/-- a move of a tank's bits leaves the two stores alike -/
theorem RB_moves {bits w ring ring2 slips : Nat → Int32} (h : RB bits w) {t : Nat} (ht : t < 8) {k : Int32} (hk : -1000000000 ≤ k.toInt ∧ k.toInt ≤ 1000000000) (hk0 : ¬ k = 0) :
    RB (f_X5_moveBits bits ring slips (nI t) k).1 (f_X7_moves w ring2 (nI t) k).1 := by
  obtain ⟨B, hB⟩ := h.tank ht
  unfold f_X5_moveBits
  rw [if_neg hk0]
  intro j hj
  show (f_X7_moves w ring2 (nI t) k).1 (414 + j) = it_X5_moveBits_66 bits ring (nI t) k 32 j ∧ 0 ≤ (it_X5_moveBits_66 bits ring (nI t) k 32 j).toInt ∧ (it_X5_moveBits_66 bits ring (nI t) k 32 j).toInt < 1048576
  by_cases e : j / 32 = t
  · obtain ⟨c, hc, rfl⟩ : ∃ c, c < 32 ∧ j = 32 * t + c := ⟨j % 32, by omega, by omega⟩
    have h1 := mvNew (ring := ring) (k := k) ht (fun c hc => ⟨(hB c hc).1, (hB c hc).2.2⟩) 32 (Nat.le_refl _) c hc
    have h2 := mvWords (ring := ring2) (k := k) ht (fun c hc => ⟨(hB c hc).2.1, (hB c hc).2.2⟩) hk 32 (Nat.le_refl _) c hc
    have e9 : 414 + (32 * t + c) = 414 + 32 * t + c := by omega
    have h3 : (f_X7_moves w ring2 (nI t) k).1 (414 + (32 * t + c)) = it_X7_moves_72 w ring2 (nI t) k 32 (414 + 32 * t + c) := by
      unfold f_X7_moves
      show upd _ _ _ _ = _
      rw [ix22 ht, pu (by omega), e9]
    have hl := join2_lt (B ((c + 32 - fwd k / 20) % 32)) (B ((c + 63 - fwd k / 20) % 32)) (fwd k % 20)
    rw [h3, h2, h1, mvEq (fun c hc => (hB c hc).2.2) (fwd_lt k) hc]
    refine ⟨rfl, ?_⟩
    rw [nI_toInt (by omega)]
    omega
  · have h1 := mv66_ne (bits := bits) (ring := ring) (k := k) ht (j := j) (fun c hc => by omega) 32 (Nat.le_refl _)
    have h2 := moves_ne (w := w) (ring := ring2) (p1 := k) (Tk_nI ht) (j := 414 + j) (fun c hc => by rw [Tk_cl ht]; omega) (by rw [Tk_cl ht]; omega)
    rw [h1, h2]
    exact h j hj
