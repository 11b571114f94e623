/-! PURE D: temperatures and clock; the end of a major cycle; the passing of minor cycles -/
theorem xor_and {x y : Int32} (h : x &&& y = 0) : x &&& (y ^^^ (-1)) = x := by
  apply Int32.toBitVec_inj.mp
  rw [Int32.toBitVec_and, Int32.toBitVec_xor]
  have e : (-1 : Int32).toBitVec = BitVec.allOnes 32 := by decide
  rw [e]
  apply BitVec.eq_of_getLsbD_eq
  intro i hi
  have h2 : (x.toBitVec &&& y.toBitVec).getLsbD i = false := by
    rw [← Int32.toBitVec_and, h]
    exact BitVec.getLsbD_zero
  rw [BitVec.getLsbD_and] at h2
  rw [BitVec.getLsbD_and, BitVec.getLsbD_xor, BitVec.getLsbD_allOnes]
  cases a : x.toBitVec.getLsbD i <;> cases b : y.toBitVec.getLsbD i <;> simp_all
theorem and_rng {b : Nat} (hb : b < 1048576) (y : Int32) : 0 ≤ (nI b &&& y).toInt ∧ (nI b &&& y).toInt < 1048576 := by
  obtain ⟨n, rfl⟩ : ∃ n, y = nI n := ⟨y.toBitVec.toNat, Int32.toBitVec_inj.mp (by show _ = BitVec.ofNat 32 _; simp)⟩
  have h := Nat.and_le_left (n := b) (m := n)
  rw [nI_and, nI_toInt (by omega)]
  omega
/-! division that rounds down -/
theorem ediv_of {a p q r : Int} (hp : 0 < p) (h : r + p * q = a) (h0 : 0 ≤ r) (h1 : r < p) : a / p = q := (Int.ediv_emod_unique hp).mpr ⟨h, h0, h1⟩ |>.1
theorem tdm (a p : Int) : a.tmod p + p * a.tdiv p = a := Int.tmod_add_mul_tdiv a p
theorem tmod_sg {a p : Int} (h : 0 ≤ a) : 0 ≤ a.tmod p := Int.tmod_nonneg p h
theorem tmod_sgn {a p : Int} (h : a ≤ 0) : a.tmod p ≤ 0 := by
  have h9 : (-(-a)).tmod p = -((-a).tmod p) := Int.neg_tmod ..
  rw [Int.neg_neg] at h9
  have := Int.tmod_nonneg p (a := -a) (by omega)
  omega
theorem ediv_cases {a p : Int} (hp : 0 < p) : (0 ≤ a → a / p = a.tdiv p) ∧ (a.tmod p = 0 → a / p = a.tdiv p) ∧ (a < 0 → ¬ a.tmod p = 0 → a / p = a.tdiv p - 1) := by
  have h := tdm a p
  have b := tmod_bounds (a := a) (M := p) hp
  refine ⟨fun q => ?_, fun q => ?_, fun q z => ?_⟩
  · exact ediv_of hp h (tmod_sg q) b.2
  · exact ediv_of hp h (by omega) (by omega)
  · have s := tmod_sgn (p := p) (Int.le_of_lt q)
    refine ediv_of (r := a.tmod p + p) hp ?_ (by omega) (by omega)
    have e : p * (a.tdiv p - 1) = p * a.tdiv p - p := by rw [Int.mul_sub, Int.mul_one]
    omega
theorem tdiv_rng {a p : Int} (hp : 0 < p) : (a.tdiv p).natAbs ≤ a.natAbs := by
  rw [Int.natAbs_tdiv]
  exact Nat.div_le_self _ _
theorem ne1 {p : Int32} (hp : 0 < p.toInt) : p.toInt ≠ -1 := by omega
theorem floor_toInt {a p : Int32} (hp : 0 < p.toInt) (ha : -2000000000 ≤ a.toInt) : (f_X7_floor a p).toInt = a.toInt / p.toInt := by
  have e0 : (0 : Int32).toInt = 0 := by decide
  have e1 : (1 : Int32).toInt = 1 := by decide
  have ed := gI_tdiv (x := a) (y := p) (ne1 hp)
  have em : (a % p).toInt = a.toInt.tmod p.toInt := Int32.toInt_mod a p
  have hb := tdiv_rng (a := a.toInt) hp
  have hh := gI_hi a
  have es := gI_sub (x := a / p) (y := 1) (by omega) (by omega)
  obtain ⟨c1, c2, c3⟩ := ediv_cases (a := a.toInt) hp
  unfold f_X7_floor
  split
  · next h =>
    have h2 := congrArg Int32.toInt h
    rw [c2 (by omega), ed]
  · next h =>
    have h2 : ¬ (a % p).toInt = 0 := fun q => h (gI_ext (by rw [q, e0]))
    split
    · next h3 =>
      rw [gI_le] at h3
      rw [if_pos (by rw [gI_le]; omega), c1 (by omega), ed]
    · next h3 =>
      rw [gI_le] at h3
      rw [if_pos (by rw [gI_le]; omega), c3 (by omega) (by omega)]
      omega
theorem floorDiv_toInt {a p : Int32} (hp : 0 < p.toInt) (ha : -2000000000 ≤ a.toInt) : (f_J9_floorDiv_7cf53 a p).toInt = a.toInt / p.toInt := by
  have e0 : (0 : Int32).toInt = 0 := by decide
  have e1 : (1 : Int32).toInt = 1 := by decide
  have ed := gI_tdiv (x := a) (y := p) (ne1 hp)
  have hb := tdiv_rng (a := a.toInt) hp
  have hh := gI_hi a
  have hl := gI_lo a
  have es := gI_sub (x := a / p) (y := 1) (by omega) (by omega)
  have hd := tdm a.toInt p.toInt
  have bm := tmod_bounds (a := a.toInt) (M := p.toInt) hp
  obtain ⟨c1, c2, c3⟩ := ediv_cases (a := a.toInt) hp
  unfold f_J9_floorDiv_7cf53
  split
  · next h =>
    rw [sg_xor] at h
    rw [c1 (by omega), ed]
  · next h =>
    rw [sg_xor] at h
    have hneg : a.toInt < 0 := by omega
    have sn := tmod_sgn (a := a.toInt) (p := p.toInt) (by omega)
    have hp9 := gI_hi p
    have emul : (a / p * p).toInt = a.toInt - a.toInt.tmod p.toInt := by
      have e2 : (a / p).toInt * p.toInt = a.toInt - a.toInt.tmod p.toInt := by rw [ed, Int.mul_comm]; omega
      rw [gI_mul (by rw [e2]; omega) (by rw [e2]; omega), e2]
    split
    · next z =>
      have z2 := congrArg Int32.toInt z
      rw [c2 (by omega), ed]
    · next z =>
      have z2 : ¬ (a / p * p).toInt = a.toInt := fun q => z (gI_ext q)
      rw [c3 hneg (by omega)]
      omega
theorem floor_eq {a p : Int32} (hp : 0 < p.toInt) (ha : -2000000000 ≤ a.toInt) : f_J9_floorDiv_7cf53 a p = f_X7_floor a p := gI_ext (by rw [floorDiv_toInt hp ha, floor_toInt hp ha])
theorem floor_rng {a p : Int32} (hp : 0 < p.toInt) (ha : -200000000 ≤ a.toInt ∧ a.toInt ≤ 200000000) : -1000000000 ≤ (f_X7_floor a p).toInt ∧ (f_X7_floor a p).toInt ≤ 1000000000 := by
  rw [floor_toInt hp (by omega)]
  have hb := tdiv_rng (a := a.toInt) hp
  obtain ⟨c1, c2, c3⟩ := ediv_cases (a := a.toInt) hp
  rcases Int.lt_or_le a.toInt 0 with z | z
  · by_cases q : a.toInt.tmod p.toInt = 0
    · rw [c2 q]; omega
    · rw [c3 z q]; omega
  · rw [c1 z]; omega
theorem dist_eq (x : Int32) : f_J9_abs_0f7a4 x = f_X7_distance x := rfl
/-! the physical part of the two states -/
def RW (T : Nat) (dr : Int32) (bits slips : Nat → Int32) (pt ot fp on : Int32) (temps w : Nat → Int32) : Prop :=
  (w 0 = nI T ∧ w 7 = dr ∧ w 8 = ot ∧ w 9 = pt ∧ w 10 = on ∧ w 11 = fp) ∧ (∀ t, t < 8 → w (14 + t) = temps t ∧ 0 ≤ (temps t).toInt ∧ (temps t).toInt ≤ 1000) ∧ (∀ t, t < 8 → w (22 + t) = slips t) ∧ RB bits w ∧ RP w ∧ g01 on
theorem temp_nI (temps : Nat → Int32) {t : Nat} (ht : t < 8) : f_X1_temperatureOf temps (nI t) = temps t := by
  unfold f_X1_temperatureOf
  rw [ix7 ht]
theorem slip_nI (slips : Nat → Int32) {t : Nat} (ht : t < 8) : f_X5_slipCountOf slips (nI t) = slips t := by
  unfold f_X5_slipCountOf
  rw [ix7 ht]
theorem per_eq {pt fp on : Int32} {w : Nat → Int32} (h9 : w 9 = pt) (h10 : w 10 = on) (h11 : w 11 = fp) (hon : g01 on) : f_X7_periodNow w = f_X1_clockPeriod pt fp on := by
  unfold f_X7_periodNow f_X1_clockPeriod
  rw [h9, h10, h11]
  rcases hon with rfl | rfl
  · rw [if_neg (by decide), if_pos rfl]
  · rw [if_pos rfl, if_neg (by decide)]
    rfl
theorem mis_eq {w : Nat → Int32} {p h : Int32} (hp : f_X7_periodNow w = p) : f_X7_mismatchAt w h = f_X6_mismatchOf h p := by
  unfold f_X7_mismatchAt f_X6_mismatchOf
  rw [hp]
  rfl
theorem safe_eq {w : Nat → Int32} {p h : Int32} (hp : f_X7_periodNow w = p) : f_X7_isSafe w h = f_X6_isSafe h p := by
  unfold f_X7_isSafe f_X6_isSafe
  rw [mis_eq hp, hp]
  rfl
theorem mis_rng {h p : Int32} (hh : 0 ≤ h.toInt ∧ h.toInt ≤ 1000) (hp : 900000 ≤ p.toInt ∧ p.toInt ≤ 1100000) : -80000000 ≤ (f_X6_mismatchOf h p).toInt ∧ (f_X6_mismatchOf h p).toInt ≤ 80000000 := by
  unfold f_X6_mismatchOf f_X6_delayOf
  have e0 : (400 : Int32).toInt = 400 := by decide
  have e1 : (19200 : Int32).toInt = 19200 := by decide
  have e2 : (640000000 : Int32).toInt = 640000000 := by decide
  have e3 : (640 : Int32).toInt = 640 := by decide
  have a1 := gI_sub (x := h) (y := 400) (by omega) (by omega)
  have a2 := gI_mul (x := 19200) (y := h - 400) (by rw [e1]; omega) (by rw [e1]; omega)
  rw [e1] at a2
  have a3 := gI_add (x := 640000000) (y := 19200 * (h - 400)) (by omega) (by omega)
  have a4 := gI_mul (x := 640) (y := p) (by rw [e3]; omega) (by rw [e3]; omega)
  rw [e3] at a4
  have a5 := gI_sub (x := 640000000 + 19200 * (h - 400)) (y := 640 * p) (by omega) (by omega)
  omega
theorem half_rng {p : Int32} (hp : 900000 ≤ p.toInt ∧ p.toInt ≤ 1100000) : 0 ≤ (p / 2).toInt ∧ (p / 2).toInt ≤ 600000 := by
  have a := gI_divL (x := p) (y := 2) (d := 2) (by omega) (by decide) (by decide)
  omega
theorem and_2pow (n i : Nat) : n &&& 2 ^ i = (n / 2 ^ i % 2) * 2 ^ i := by
  apply Nat.eq_of_testBit_eq
  intro j
  have e : n / 2 ^ i % 2 = n / 2 ^ i % 2 ^ 1 := by rw [Nat.pow_one]
  rw [Nat.testBit_and, Nat.testBit_two_pow, Nat.testBit_mul_two_pow, e, Nat.testBit_mod_two_pow, Nat.testBit_div_two_pow]
  by_cases h : i = j
  · subst h; simp
  · by_cases h2 : i ≤ j
    · have h3 : ¬ (j - i < 1) := by omega
      simp [h, h3]
    · simp [h, h2]
/-! the bit that drops -/
theorem drop_rel {dr : Int32} {bits w : Nat → Int32} {t M : Nat} (ht : t < 8) (hM : M < 10000000) (h0 : w 0 = nI (32 * M)) (h7 : w 7 = dr) (h : RB bits w) :
    f_X7_drops w (nI t) 7 = (f_X5_dropBit bits dr (nI t) ((7 * nI M + nI t) % 640)).1 ∧ RB (f_X5_dropBit bits dr (nI t) ((7 * nI M + nI t) % 640)).2 (f_X7_drops w (nI t)) := by
  obtain ⟨B, hB⟩ := h.tank ht
  have l7 : (7 : Int32) = nI 7 := rfl
  have em : (7 * nI M + nI t) % 640 = nI ((7 * M + t) % 640) := by
    rw [l7, pk_mul, nI_add]
    refine gI_ext ?_
    have e := nI_toInt (n := 7 * M + t) (by omega)
    rw [gI_modL (d := 640) (by omega) (by decide), e, nI_toInt (by omega)]
    omega
  have ew : (w 0) / 32 = nI M := by
    rw [h0, div32_nI (by omega)]
    congr 1
    omega
  unfold f_X7_drops f_X5_dropBit
  rw [ew, em]
  have hx : (7 * M + t) % 640 < 640 := Nat.mod_lt _ (by decide)
  generalize (7 * M + t) % 640 = x at *
  obtain ⟨d1, d2⟩ := divmod20 (k := x) (by omega)
  have hi : x % 20 < 20 := Nat.mod_lt _ (by decide)
  have hc : x / 20 < 32 := by omega
  obtain ⟨b1, b2, b3⟩ := hB (x / 20) hc
  rw [d1, d2, ix414t, nI_clamp (by omega), locOf_nI, ix255 (by omega), b1, b2]
  generalize x % 20 = i at *
  generalize x / 20 = c at *
  have hp : (2 : Nat) ^ i ≤ 2 ^ 19 := Nat.pow_le_pow_right (by decide) (by omega)
  have h19 : (2 : Nat) ^ 19 = 524288 := by decide
  have e1 : (1 : Int32) <<< (nI i &&& 31) = nI (2 ^ i) := by
    have q := pk_shlN (n := 1) (nI i &&& 31) i (shAmt i (by omega)) (by omega)
    rw [Nat.one_mul] at q
    exact q
  rw [bit_nI (by omega) (by omega), e1, nI_and, and_2pow]
  have e9 : 414 + 32 * t + c = 414 + (32 * t + c) := by omega
  by_cases q : B c / 2 ^ i % 2 = 1
  · have z : ¬ nI (B c / 2 ^ i % 2 * 2 ^ i) = 0 := by
      have hp2 := Nat.two_pow_pos i
      rw [q, Nat.one_mul]
      exact nI_ne0 hp2 (by omega)
    rw [if_neg z, q]
    refine ⟨?_, ?_⟩
    · rw [pu (by omega), pus, h7]; rfl
    · have r := and_rng b3 (nI (2 ^ i) ^^^ (-1))
      have hv : upd w 7 (w 7 + nI 1) (414 + 32 * t + c) = nI (B c) := by rw [pu (by omega)]; exact b2
      rw [hv, e9]
      exact (h.low (by omega)).put r
  · have q0 : B c / 2 ^ i % 2 = 0 := by omega
    have z : nI (B c / 2 ^ i % 2 * 2 ^ i) = 0 := by
      rw [q0, Nat.zero_mul]
      rfl
    rw [if_pos z, q0]
    have hand : nI (B c) &&& nI (2 ^ i) = 0 := by rw [nI_and, and_2pow, z]
    refine ⟨?_, ?_⟩
    · rw [pu (by omega), pus, h7]
      exact Int32.add_zero dr
    · have hv : upd w 7 (w 7 + nI 0) (414 + 32 * t + c) = nI (B c) := by rw [pu (by omega)]; exact b2
      rw [hv, xor_and hand]
      refine (h.low (j := 7) (x := w 7 + nI 0) (by omega)).frame (fun k hk => ?_)
      by_cases e : 414 + k = 414 + 32 * t + c
      · rw [e, pus, hv]
      · rw [pu e]
