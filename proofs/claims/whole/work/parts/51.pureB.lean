/-! PURE B: the store: single words, counts of ones, the moves of a tank's bits, the bit that drops -/
theorem nI_and (a b : Nat) : nI a &&& nI b = nI (a &&& b) := by
  apply Int32.toBitVec_inj.mp
  rw [Int32.toBitVec_and]
  apply BitVec.eq_of_toNat_eq
  show (BitVec.ofNat 32 a &&& BitVec.ofNat 32 b).toNat = (BitVec.ofNat 32 (a &&& b)).toNat
  rw [BitVec.toNat_and, BitVec.toNat_ofNat, BitVec.toNat_ofNat, BitVec.toNat_ofNat, Nat.and_mod_two_pow]
theorem nI_or (a b : Nat) : nI a ||| nI b = nI (a ||| b) := by
  apply Int32.toBitVec_inj.mp
  rw [Int32.toBitVec_or]
  apply BitVec.eq_of_toNat_eq
  show (BitVec.ofNat 32 a ||| BitVec.ofNat 32 b).toNat = (BitVec.ofNat 32 (a ||| b)).toNat
  rw [BitVec.toNat_or, BitVec.toNat_ofNat, BitVec.toNat_ofNat, BitVec.toNat_ofNat, Nat.or_mod_two_pow]
theorem shAmt : ∀ n, n < 32 → ((nI n &&& 31).toBitVec.smod 32).toNat = n := by decide +kernel
theorem shr_nI {m k : Nat} (hm : m < 2147483648) (hk : k < 32) : nI m >>> (nI k &&& 31) = nI (m / 2 ^ k) := pk_shrN (by omega) _ k (shAmt k hk)
/-- a bit of a word -/
theorem bit_nI {m k : Nat} (hm : m < 2147483648) (hk : k < 32) : (nI m >>> (nI k &&& 31)) &&& 1 = nI (m / 2 ^ k % 2) := by
  have h := Nat.div_le_self m (2 ^ k)
  rw [shr_nI hm hk, pk_andN (n := m / 2 ^ k) (by omega) 1 (by decide)]
theorem divmod20 {k : Nat} (h : k < 2147483648) : nI k / 20 = nI (k / 20) ∧ nI k % 20 = nI (k % 20) := by
  refine ⟨pk_div (d := 20) (by omega) (by decide) (by decide), gI_ext ?_⟩
  have e := nI_toInt (n := k) (by omega)
  rw [gI_modL (d := 20) (by omega) (by decide), e, nI_toInt (by omega)]
  omega
/-- the store's words of the class and of the reference -/
def RB (bits w : Nat → Int32) : Prop := ∀ k, k < 256 → w (414 + k) = bits k ∧ 0 ≤ (bits k).toInt ∧ (bits k).toInt < 1048576
theorem RB.nat {bits w : Nat → Int32} (h : RB bits w) {k : Nat} (hk : k < 256) : ∃ m, m < 1048576 ∧ bits k = nI m := of_rng (N := 1048576) (by omega) (h k hk).2
theorem RB.frame {bits w v : Nat → Int32} (h : RB bits w) (hv : ∀ k, k < 256 → v (414 + k) = w (414 + k)) : RB bits v := fun k hk => ⟨by rw [hv k hk]; exact (h k hk).1, (h k hk).2⟩
theorem RB.low {bits w : Nat → Int32} (h : RB bits w) {j : Nat} {x : Int32} (hj : j < 414) : RB bits (upd w j x) := h.frame (fun k _ => pu (by omega))
theorem RB.put {bits w : Nat → Int32} (h : RB bits w) {k : Nat} {x : Int32} (hx : 0 ≤ x.toInt ∧ x.toInt < 1048576) : RB (upd bits k x) (upd w (414 + k) x) := by
  intro j hj
  by_cases e : j = k
  · subst e; rw [pus, pus]; exact ⟨rfl, hx⟩
  · rw [pu e, pu (by omega)]; exact h j hj
theorem wordAt_nI (bits : Nat → Int32) {k : Nat} (hk : k < 256) : f_X5_wordAt bits (nI k) = sg (bits k) := by
  unfold f_X5_wordAt
  rw [ix255 hk]
  rfl
theorem putWord_nI (bits : Nat → Int32) {k : Nat} (hk : k < 256) (v : Int32) : f_X5_putWord bits (nI k) v = upd bits k (v &&& 1048575) := by
  unfold f_X5_putWord
  rw [ix255 hk]
theorem RB.putWord {bits w : Nat → Int32} (h : RB bits w) {k : Nat} (hk : k < 256) (v : Int32) : RB (f_X5_putWord bits (nI k) v) (upd w (414 + k) (v &&& 1048575)) := by
  rw [putWord_nI bits hk]
  exact h.put (mask_rng v)
/-! sums -/
def sumN (g : Nat → Nat) : Nat → Nat
  | 0 => 0
  | n + 1 => sumN g n + g n
theorem sumN_lt {g : Nat → Nat} (h : ∀ i, g i < 2) : ∀ n, sumN g n ≤ n := by
  intro n
  induction n with
  | zero => exact Nat.le_refl _
  | succ n ih => show sumN g n + g n ≤ n + 1; have := h n; omega
/-- the bit at a place of a tank whose words are B -/
def pb (B : Nat → Nat) (x : Nat) : Nat := B (x / 20) / 2 ^ (x % 20) % 2
theorem pb_lt (B : Nat → Nat) (x : Nat) : pb B x < 2 := Nat.mod_lt _ (by decide)
theorem bitsOf_it {w : Nat → Int32} {B : Nat → Nat} {t : Nat} (ht : t < 8) (hB : ∀ c, c < 32 → w (414 + 32 * t + c) = nI (B c) ∧ B c < 1048576) : ∀ n, n ≤ 640 → it_X7_bitsOf_4 w (nI t) n = nI (sumN (pb B) n) := by
  intro n
  induction n with
  | zero => intro _; rfl
  | succ n ih =>
    intro hn
    obtain ⟨d1, d2⟩ := divmod20 (k := n) (by omega)
    obtain ⟨b1, b2⟩ := hB (n / 20) (by omega)
    show st_X7_bitsOf_4 w (nI t) n (it_X7_bitsOf_4 w (nI t) n) = nI (sumN (pb B) n + pb B n)
    unfold st_X7_bitsOf_4
    rw [ih (by omega), d1, d2, ix414t, nI_clamp (by omega), b1, bit_nI (by omega) (by omega), nI_add]
    rfl
/-! the count of ones of one word: Integer.bitCount -/
def swA (x : Nat) : Nat := x - (x / 2 &&& 1431655765)
def swB (x : Nat) : Nat := (x &&& 858993459) + (x / 4 &&& 858993459)
def swC (x : Nat) : Nat := (x + x / 16) &&& 252645135
def fA (x : Nat) : Nat := x - (x / 2 &&& 85)
def fB (x : Nat) : Nat := (x &&& 51) + (x / 4 &&& 51)
def fC (x : Nat) : Nat := (x + x / 16) &&& 15
def pop8 (x : Nat) : Nat := x % 2 + x / 2 % 2 + x / 4 % 2 + x / 8 % 2 + x / 16 % 2 + x / 32 % 2 + x / 64 % 2 + x / 128 % 2
theorem and256 (x y : Nat) (hx : x < 256) (u v : Nat) (hu : u < 256) : (x + 256 * y) &&& (u + 256 * v) = (x &&& u) + 256 * (y &&& v) := by
  have h1 : ((x + 256 * y) &&& (u + 256 * v)) % 2 ^ 8 = x &&& u := by
    rw [Nat.and_mod_two_pow]
    congr 1 <;> omega
  have h2 : ((x + 256 * y) &&& (u + 256 * v)) / 2 ^ 8 = y &&& v := by
    rw [Nat.and_div_two_pow]
    congr 1 <;> omega
  omega
theorem and3 (a b c : Nat) (ha : a < 256) (hb : b < 256) (u : Nat) (hu : u < 256) : (a + 256 * b + 65536 * c) &&& (u + 256 * u + 65536 * u + 16777216 * u) = (a &&& u) + 256 * (b &&& u) + 65536 * (c &&& (u + 256 * u)) := by
  have e1 : a + 256 * b + 65536 * c = a + 256 * (b + 256 * c) := by omega
  have e2 : u + 256 * u + 65536 * u + 16777216 * u = u + 256 * (u + 256 * (u + 256 * u)) := by omega
  rw [e1, e2, and256 _ _ ha _ _ hu, and256 _ _ hb _ _ hu]
  omega
theorem and3c (a b c : Nat) (ha : a < 256) (hb : b < 256) (hc : c < 256) (u : Nat) (hu : u < 256) : (a + 256 * b + 65536 * c) &&& (u + 256 * u + 65536 * u + 16777216 * u) = (a &&& u) + 256 * (b &&& u) + 65536 * (c &&& u) := by
  have h := and256 c 0 hc u u hu
  have e : c + 256 * 0 = c := by omega
  rw [e] at h
  rw [and3 a b c ha hb u hu, h]
  simp
theorem bA : ∀ a, a < 256 → (∀ q, q < 2 → (a / 2 + 128 * q) &&& 85 = a / 2 &&& 85) ∧ fA a < 256 ∧ (a / 2 &&& 85) ≤ a ∧ (∀ q, q < 4 → (fA a / 4 + 64 * q) &&& 51 = fA a / 4 &&& 51) ∧ fB (fA a) < 256 ∧ (∀ q, q < 5 → fB (fA a) + (fB (fA a) / 16 + 16 * q) < 256 ∧ (fB (fA a) + (fB (fA a) / 16 + 16 * q)) &&& 15 = fC (fB (fA a))) ∧ fB (fA a) % 16 < 5 ∧ fC (fB (fA a)) = pop8 a := by decide +kernel
theorem pop8_le (a : Nat) : pop8 a ≤ 8 := by unfold pop8; omega
theorem sw_all {a b c : Nat} (ha : a < 256) (hb : b < 256) (hc : c < 16) : swC (swB (swA (a + 256 * b + 65536 * c))) = pop8 a + 256 * pop8 b + 65536 * pop8 c := by
  obtain ⟨a1, a2, a3, a4, a5, a6, a7, a8⟩ := bA a ha
  obtain ⟨b1, b2, b3, b4, b5, b6, b7, b8⟩ := bA b hb
  obtain ⟨c1, c2, c3, c4, c5, c6, c7, c8⟩ := bA c (by omega)
  have m1 : (1431655765 : Nat) = 85 + 256 * 85 + 65536 * 85 + 16777216 * 85 := by decide
  have m2 : (858993459 : Nat) = 51 + 256 * 51 + 65536 * 51 + 16777216 * 51 := by decide
  have m3 : (252645135 : Nat) = 15 + 256 * 15 + 65536 * 15 + 16777216 * 15 := by decide
  have e1 : swA (a + 256 * b + 65536 * c) = fA a + 256 * fA b + 65536 * fA c := by
    unfold swA
    have d : (a + 256 * b + 65536 * c) / 2 = (a / 2 + 128 * (b % 2)) + 256 * (b / 2 + 128 * (c % 2)) + 65536 * (c / 2 + 128 * 0) := by omega
    rw [d, m1, and3c _ _ _ (by omega) (by omega) (by omega) 85 (by decide), a1 _ (by omega), b1 _ (by omega), c1 0 (by omega)]
    unfold fA
    omega
  have e2 : swB (fA a + 256 * fA b + 65536 * fA c) = fB (fA a) + 256 * fB (fA b) + 65536 * fB (fA c) := by
    unfold swB
    have d : (fA a + 256 * fA b + 65536 * fA c) / 4 = (fA a / 4 + 64 * (fA b % 4)) + 256 * (fA b / 4 + 64 * (fA c % 4)) + 65536 * (fA c / 4 + 64 * 0) := by omega
    rw [d, m2, and3c _ _ _ (by omega) (by omega) (by omega) 51 (by decide), and3c _ _ _ (by omega) (by omega) (by omega) 51 (by decide), a4 _ (by omega), b4 _ (by omega), c4 0 (by omega)]
    unfold fB
    omega
  rw [e1, e2]
  unfold swC
  have d : fB (fA a) + 256 * fB (fA b) + 65536 * fB (fA c) + (fB (fA a) + 256 * fB (fA b) + 65536 * fB (fA c)) / 16 = (fB (fA a) + (fB (fA a) / 16 + 16 * (fB (fA b) % 16))) + 256 * (fB (fA b) + (fB (fA b) / 16 + 16 * (fB (fA c) % 16))) + 65536 * (fB (fA c) + (fB (fA c) / 16 + 16 * 0)) := by omega
  rw [d, m3, and3c _ _ _ (a6 _ b7).1 (b6 _ c7).1 (c6 0 (by omega)).1 15 (by decide), (a6 _ b7).2, (b6 _ c7).2, (c6 0 (by omega)).2, a8, b8, c8]
def pop20 (m : Nat) : Nat := m / 2 ^ 0 % 2 + m / 2 ^ 1 % 2 + m / 2 ^ 2 % 2 + m / 2 ^ 3 % 2 + m / 2 ^ 4 % 2 + m / 2 ^ 5 % 2 + m / 2 ^ 6 % 2 + m / 2 ^ 7 % 2 + m / 2 ^ 8 % 2 + m / 2 ^ 9 % 2 + m / 2 ^ 10 % 2 + m / 2 ^ 11 % 2 + m / 2 ^ 12 % 2 + m / 2 ^ 13 % 2 + m / 2 ^ 14 % 2 + m / 2 ^ 15 % 2 + m / 2 ^ 16 % 2 + m / 2 ^ 17 % 2 + m / 2 ^ 18 % 2 + m / 2 ^ 19 % 2
theorem pop8_16 : ∀ c, c < 16 → pop8 c = c % 2 + c / 2 % 2 + c / 4 % 2 + c / 8 % 2 := by decide +kernel
theorem pq0 {a b c : Nat} (ha : a < 256) (hb : b < 256) (hc : c < 16) : (a + 256 * b + 65536 * c) / 2 ^ 0 % 2 = a % 2 := by
  show (a + 256 * b + 65536 * c) / 1 % 2 = _
  omega
theorem pq1 {a b c : Nat} (ha : a < 256) (hb : b < 256) (hc : c < 16) : (a + 256 * b + 65536 * c) / 2 ^ 1 % 2 = a / 2 % 2 := by
  show (a + 256 * b + 65536 * c) / 2 % 2 = _
  omega
theorem pq2 {a b c : Nat} (ha : a < 256) (hb : b < 256) (hc : c < 16) : (a + 256 * b + 65536 * c) / 2 ^ 2 % 2 = a / 4 % 2 := by
  show (a + 256 * b + 65536 * c) / 4 % 2 = _
  omega
theorem pq3 {a b c : Nat} (ha : a < 256) (hb : b < 256) (hc : c < 16) : (a + 256 * b + 65536 * c) / 2 ^ 3 % 2 = a / 8 % 2 := by
  show (a + 256 * b + 65536 * c) / 8 % 2 = _
  omega
theorem pq4 {a b c : Nat} (ha : a < 256) (hb : b < 256) (hc : c < 16) : (a + 256 * b + 65536 * c) / 2 ^ 4 % 2 = a / 16 % 2 := by
  show (a + 256 * b + 65536 * c) / 16 % 2 = _
  omega
theorem pq5 {a b c : Nat} (ha : a < 256) (hb : b < 256) (hc : c < 16) : (a + 256 * b + 65536 * c) / 2 ^ 5 % 2 = a / 32 % 2 := by
  show (a + 256 * b + 65536 * c) / 32 % 2 = _
  omega
theorem pq6 {a b c : Nat} (ha : a < 256) (hb : b < 256) (hc : c < 16) : (a + 256 * b + 65536 * c) / 2 ^ 6 % 2 = a / 64 % 2 := by
  show (a + 256 * b + 65536 * c) / 64 % 2 = _
  omega
theorem pq7 {a b c : Nat} (ha : a < 256) (hb : b < 256) (hc : c < 16) : (a + 256 * b + 65536 * c) / 2 ^ 7 % 2 = a / 128 % 2 := by
  show (a + 256 * b + 65536 * c) / 128 % 2 = _
  omega
theorem pq8 {a b c : Nat} (ha : a < 256) (hb : b < 256) (hc : c < 16) : (a + 256 * b + 65536 * c) / 2 ^ 8 % 2 = b % 2 := by
  show (a + 256 * b + 65536 * c) / 256 % 2 = _
  omega
theorem pq9 {a b c : Nat} (ha : a < 256) (hb : b < 256) (hc : c < 16) : (a + 256 * b + 65536 * c) / 2 ^ 9 % 2 = b / 2 % 2 := by
  show (a + 256 * b + 65536 * c) / 512 % 2 = _
  omega
theorem pq10 {a b c : Nat} (ha : a < 256) (hb : b < 256) (hc : c < 16) : (a + 256 * b + 65536 * c) / 2 ^ 10 % 2 = b / 4 % 2 := by
  show (a + 256 * b + 65536 * c) / 1024 % 2 = _
  omega
theorem pq11 {a b c : Nat} (ha : a < 256) (hb : b < 256) (hc : c < 16) : (a + 256 * b + 65536 * c) / 2 ^ 11 % 2 = b / 8 % 2 := by
  show (a + 256 * b + 65536 * c) / 2048 % 2 = _
  omega
theorem pq12 {a b c : Nat} (ha : a < 256) (hb : b < 256) (hc : c < 16) : (a + 256 * b + 65536 * c) / 2 ^ 12 % 2 = b / 16 % 2 := by
  show (a + 256 * b + 65536 * c) / 4096 % 2 = _
  omega
theorem pq13 {a b c : Nat} (ha : a < 256) (hb : b < 256) (hc : c < 16) : (a + 256 * b + 65536 * c) / 2 ^ 13 % 2 = b / 32 % 2 := by
  show (a + 256 * b + 65536 * c) / 8192 % 2 = _
  omega
theorem pq14 {a b c : Nat} (ha : a < 256) (hb : b < 256) (hc : c < 16) : (a + 256 * b + 65536 * c) / 2 ^ 14 % 2 = b / 64 % 2 := by
  show (a + 256 * b + 65536 * c) / 16384 % 2 = _
  omega
theorem pq15 {a b c : Nat} (ha : a < 256) (hb : b < 256) (hc : c < 16) : (a + 256 * b + 65536 * c) / 2 ^ 15 % 2 = b / 128 % 2 := by
  show (a + 256 * b + 65536 * c) / 32768 % 2 = _
  omega
theorem pq16 {a b c : Nat} (ha : a < 256) (hb : b < 256) (hc : c < 16) : (a + 256 * b + 65536 * c) / 2 ^ 16 % 2 = c % 2 := by
  show (a + 256 * b + 65536 * c) / 65536 % 2 = _
  omega
theorem pq17 {a b c : Nat} (ha : a < 256) (hb : b < 256) (hc : c < 16) : (a + 256 * b + 65536 * c) / 2 ^ 17 % 2 = c / 2 % 2 := by
  show (a + 256 * b + 65536 * c) / 131072 % 2 = _
  omega
theorem pq18 {a b c : Nat} (ha : a < 256) (hb : b < 256) (hc : c < 16) : (a + 256 * b + 65536 * c) / 2 ^ 18 % 2 = c / 4 % 2 := by
  show (a + 256 * b + 65536 * c) / 262144 % 2 = _
  omega
theorem pq19 {a b c : Nat} (ha : a < 256) (hb : b < 256) (hc : c < 16) : (a + 256 * b + 65536 * c) / 2 ^ 19 % 2 = c / 8 % 2 := by
  show (a + 256 * b + 65536 * c) / 524288 % 2 = _
  omega
theorem pop20_3 {a b c : Nat} (ha : a < 256) (hb : b < 256) (hc : c < 16) : pop20 (a + 256 * b + 65536 * c) = pop8 a + pop8 b + pop8 c := by
  rw [pop8_16 c hc]
  unfold pop20
  rw [pq0 ha hb hc, pq1 ha hb hc, pq2 ha hb hc, pq3 ha hb hc, pq4 ha hb hc, pq5 ha hb hc, pq6 ha hb hc, pq7 ha hb hc, pq8 ha hb hc, pq9 ha hb hc, pq10 ha hb hc, pq11 ha hb hc, pq12 ha hb hc, pq13 ha hb hc, pq14 ha hb hc, pq15 ha hb hc, pq16 ha hb hc, pq17 ha hb hc, pq18 ha hb hc, pq19 ha hb hc]
  unfold pop8
  simp only [Nat.add_assoc]
theorem gUshr_nI {n k : Nat} (hn : n < 4294967296) (hk : ((nI k).toUInt32 &&& Int32.toUInt32 31).toBitVec % 32 = BitVec.ofNat 32 k) (hk2 : k < 32) : gUshr (nI n) (nI k) = nI (n / 2 ^ k) := by
  unfold gUshr
  refine pk_ushrN (by omega) (nI k) k ?_
  rw [hk, BitVec.toNat_ofNat, Nat.mod_eq_of_lt (by omega)]
theorem gU1 {n : Nat} (hn : n < 4294967296) : gUshr (nI n) 1 = nI (n / 2) := gUshr_nI (k := 1) hn (by decide) (by decide)
theorem gU2 {n : Nat} (hn : n < 4294967296) : gUshr (nI n) 2 = nI (n / 4) := gUshr_nI (k := 2) hn (by decide) (by decide)
theorem gU4 {n : Nat} (hn : n < 4294967296) : gUshr (nI n) 4 = nI (n / 16) := gUshr_nI (k := 4) hn (by decide) (by decide)
theorem gU8 {n : Nat} (hn : n < 4294967296) : gUshr (nI n) 8 = nI (n / 256) := gUshr_nI (k := 8) hn (by decide) (by decide)
theorem gU16 {n : Nat} (hn : n < 4294967296) : gUshr (nI n) 16 = nI (n / 65536) := gUshr_nI (k := 16) hn (by decide) (by decide)
theorem and_le (a b : Nat) : (a &&& b) ≤ b := Nat.and_le_right
theorem bitCount_nI {m : Nat} (hm : m < 1048576) : f_J6_bitCount_0f7a4 (nI m) = nI (pop20 m) := by
  have l1 : (1431655765 : Int32) = nI 1431655765 := rfl
  have l2 : (858993459 : Int32) = nI 858993459 := rfl
  have l3 : (252645135 : Int32) = nI 252645135 := rfl
  have k1 : (m / 2 &&& 1431655765) ≤ m := Nat.le_trans Nat.and_le_left (Nat.div_le_self _ _)
  have a1 : nI m - (gUshr (nI m) 1 &&& 1431655765) = nI (swA m) := by
    rw [gU1 (by omega), l1, nI_and, pk_sub k1]
    rfl
  have r1 : swA m < 1048576 := by unfold swA; omega
  have k2 := and_le (swA m) 858993459
  have k3 := and_le (swA m / 4) 858993459
  have a2 : ((nI (swA m) &&& 858993459) + (gUshr (nI (swA m)) 2 &&& 858993459)) = nI (swB (swA m)) := by
    rw [gU2 (by omega), l2, nI_and, nI_and, nI_add]
    rfl
  have r2 : swB (swA m) < 2000000000 := by unfold swB; omega
  have a3 : (nI (swB (swA m)) + gUshr (nI (swB (swA m))) 4) &&& 252645135 = nI (swC (swB (swA m))) := by
    rw [gU4 (by omega), l3, nI_add, nI_and]
    rfl
  have e : m = m % 256 + 256 * (m / 256 % 256) + 65536 * (m / 65536) := by omega
  have s := sw_all (a := m % 256) (b := m / 256 % 256) (c := m / 65536) (by omega) (by omega) (by omega)
  have p := pop20_3 (a := m % 256) (b := m / 256 % 256) (c := m / 65536) (by omega) (by omega) (by omega)
  rw [← e] at s p
  have q1 := pop8_le (m % 256)
  have q2 := pop8_le (m / 256 % 256)
  have q3 := pop8_le (m / 65536)
  unfold f_J6_bitCount_0f7a4
  rw [a1, a2, a3, s, p]
  generalize pop8 (m % 256) = A at *
  generalize pop8 (m / 256 % 256) = C at *
  generalize pop8 (m / 65536) = D at *
  rw [gU8 (by omega), nI_add, gU16 (by omega), nI_add]
  have n1 : (A + 256 * C + 65536 * D) / 256 = C + 256 * D := by omega
  have n2 : (A + 256 * C + 65536 * D + (C + 256 * D)) / 65536 = D := by omega
  rw [n1, n2]
  refine (pk_andN (by omega) 6 (by decide)).trans (congrArg nI ?_)
  show _ % 64 = _
  have n3 : A + 256 * C + 65536 * D + (C + 256 * D) + D = A + C + D + 64 * (4 * C + 1024 * D + 4 * D) := by omega
  rw [n3, Nat.add_mul_mod_self_left]
  omega
theorem sum20 (g : Nat → Nat) (n : Nat) : sumN g (n + 20) = sumN g n + (g n + g (n + 1) + g (n + 2) + g (n + 3) + g (n + 4) + g (n + 5) + g (n + 6) + g (n + 7) + g (n + 8) + g (n + 9) + g (n + 10) + g (n + 11) + g (n + 12) + g (n + 13) + g (n + 14) + g (n + 15) + g (n + 16) + g (n + 17) + g (n + 18) + g (n + 19)) := by
  show sumN g n + g n + g (n + 1) + g (n + 2) + g (n + 3) + g (n + 4) + g (n + 5) + g (n + 6) + g (n + 7) + g (n + 8) + g (n + 9) + g (n + 10) + g (n + 11) + g (n + 12) + g (n + 13) + g (n + 14) + g (n + 15) + g (n + 16) + g (n + 17) + g (n + 18) + g (n + 19) = _
  omega
theorem pb_at (B : Nat → Nat) (c i : Nat) (hi : i < 20) : pb B (20 * c + i) = B c / 2 ^ i % 2 := by
  unfold pb
  have e1 : (20 * c + i) / 20 = c := by omega
  have e2 : (20 * c + i) % 20 = i := by omega
  rw [e1, e2]
theorem sum_word (B : Nat → Nat) (c : Nat) : sumN (pb B) (20 * (c + 1)) = sumN (pb B) (20 * c) + pop20 (B c) := by
  have e : 20 * (c + 1) = 20 * c + 20 := by omega
  have h0 := pb_at B c 0 (by decide)
  rw [Nat.add_zero] at h0
  rw [e, sum20, h0]
  unfold pop20
  rw [pb_at B c 1 (by decide), pb_at B c 2 (by decide), pb_at B c 3 (by decide), pb_at B c 4 (by decide), pb_at B c 5 (by decide), pb_at B c 6 (by decide), pb_at B c 7 (by decide), pb_at B c 8 (by decide), pb_at B c 9 (by decide), pb_at B c 10 (by decide), pb_at B c 11 (by decide), pb_at B c 12 (by decide), pb_at B c 13 (by decide), pb_at B c 14 (by decide), pb_at B c 15 (by decide), pb_at B c 16 (by decide), pb_at B c 17 (by decide), pb_at B c 18 (by decide), pb_at B c 19 (by decide)]
theorem countOnes_it {bits : Nat → Int32} {B : Nat → Nat} {t : Nat} (ht : t < 8) (hB : ∀ c, c < 32 → bits (32 * t + c) = nI (B c) ∧ B c < 1048576) : ∀ n, n ≤ 32 → it_X5_countOnes_4 bits (nI t) n = nI (sumN (pb B) (20 * n)) := by
  intro n
  induction n with
  | zero => intro _; rfl
  | succ n ih =>
    intro hn
    obtain ⟨b1, b2⟩ := hB n (by omega)
    show st_X5_countOnes_4 bits (nI t) n (it_X5_countOnes_4 bits (nI t) n) = _
    unfold st_X5_countOnes_4
    rw [ih (by omega), locOf_nI, ix255 (by omega), b1, bitCount_nI b2, sum_word, nI_add]
/-- the words of a tank as naturals -/
theorem RB.tank {bits w : Nat → Int32} (h : RB bits w) {t : Nat} (ht : t < 8) : ∃ B : Nat → Nat, ∀ c, c < 32 → bits (32 * t + c) = nI (B c) ∧ w (414 + 32 * t + c) = nI (B c) ∧ B c < 1048576 := by
  refine ⟨fun c => (bits (32 * t + c)).toNatClampNeg, fun c hc => ?_⟩
  obtain ⟨m, hm, e⟩ := h.nat (k := 32 * t + c) (by omega)
  have e2 := (h (32 * t + c) (by omega)).1
  have e3 : 414 + (32 * t + c) = 414 + 32 * t + c := by omega
  rw [e3] at e2
  show _ = nI (bits (32 * t + c)).toNatClampNeg ∧ _ = nI (bits (32 * t + c)).toNatClampNeg ∧ (bits (32 * t + c)).toNatClampNeg < _
  rw [e2, e, nI_clamp (by omega)]
  exact ⟨rfl, rfl, hm⟩
theorem ones_eq {bits w : Nat → Int32} (h : RB bits w) {t : Nat} (ht : t < 8) : f_X5_countOnes bits (nI t) = f_X7_bitsOf w (nI t) := by
  obtain ⟨B, hB⟩ := h.tank ht
  unfold f_X5_countOnes f_X7_bitsOf
  rw [countOnes_it ht (fun c hc => ⟨(hB c hc).1, (hB c hc).2.2⟩) 32 (Nat.le_refl _), bitsOf_it ht (fun c hc => ⟨(hB c hc).2.1, (hB c hc).2.2⟩) 640 (Nat.le_refl _)]
