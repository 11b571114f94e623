/-! OWN PURE ROWS: Int32 by its value toInt -/
theorem gInL {i : Int32} {n : Nat} (h : (decide (0 ≤ i.toInt) && decide (i.toInt < n)) = true) : vp_in i n := by
  rw [vp_in_iff]
  simpa using h
theorem gI_lo (x : Int32) : -2147483648 ≤ x.toInt := by have := Int32.le_toInt x; omega
theorem gI_hi (x : Int32) : x.toInt < 2147483648 := by have := Int32.toInt_lt x; omega
theorem gI_nat (x : Int32) : (x.toBitVec.toNat : Int) = x.toInt % 4294967296 := by
  have h : x.toInt = x.toBitVec.toInt := rfl
  rw [h, BitVec.toInt_eq_toNat_bmod]
  have := x.toBitVec.isLt
  simp only [Int.bmod]
  omega
theorem gI_and (x : Int32) {m : Int32} (k : Nat) (hm : m.toBitVec.toNat = 2 ^ k - 1) (hk : k ≤ 31) : (x &&& m).toInt = x.toInt % (2 ^ k : Nat) := by
  rw [pk_and x k hm]
  have h1 : x.toBitVec.toNat % 2 ^ k < 2 ^ 31 := Nat.lt_of_lt_of_le (Nat.mod_lt _ (Nat.two_pow_pos k)) (Nat.pow_le_pow_right (by decide) hk)
  rw [nI_toInt h1]
  first | rw [Int.natCast_emod] | rw [Int.ofNat_emod] | rw [Int.natCast_mod_natCast]
  rw [gI_nat x]
  have h2 : ((2 ^ k : Nat) : Int) ∣ 4294967296 := by
    have h3 : (2 ^ k : Nat) ∣ 2 ^ 32 := Nat.pow_dvd_pow 2 (by omega)
    have h4 := Int.natCast_dvd_natCast.mpr h3
    simpa using h4
  exact Int.emod_emod_of_dvd _ h2
theorem gI_and255 (x : Int32) : (x &&& 255).toInt = x.toInt % 256 := gI_and x 8 (by decide) (by decide)
theorem gI_and31 (x : Int32) : (x &&& 31).toInt = x.toInt % 32 := gI_and x 5 (by decide) (by decide)
theorem gI_and7 (x : Int32) : (x &&& 7).toInt = x.toInt % 8 := gI_and x 3 (by decide) (by decide)
theorem gI_and15 (x : Int32) : (x &&& 15).toInt = x.toInt % 16 := gI_and x 4 (by decide) (by decide)
theorem gI_and63 (x : Int32) : (x &&& 63).toInt = x.toInt % 64 := gI_and x 6 (by decide) (by decide)
theorem gI_and1 (x : Int32) : (x &&& 1).toInt = x.toInt % 2 := gI_and x 1 (by decide) (by decide)
theorem gI_and20 (x : Int32) : (x &&& 1048575).toInt = x.toInt % 1048576 := gI_and x 20 (by decide) (by decide)
theorem gI_and12 (x : Int32) : (x &&& 4095).toInt = x.toInt % 4096 := gI_and x 12 (by decide) (by decide)
theorem gI_bm {z : Int} (h1 : -2147483648 ≤ z) (h2 : z < 2147483648) : z.bmod (2 ^ 32) = z := by
  simp only [Int.bmod]; omega
theorem gI_add {x y : Int32} (h1 : -2147483648 ≤ x.toInt + y.toInt) (h2 : x.toInt + y.toInt < 2147483648) : (x + y).toInt = x.toInt + y.toInt := by rw [Int32.toInt_add]; exact gI_bm h1 h2
theorem gI_sub {x y : Int32} (h1 : -2147483648 ≤ x.toInt - y.toInt) (h2 : x.toInt - y.toInt < 2147483648) : (x - y).toInt = x.toInt - y.toInt := by rw [Int32.toInt_sub]; exact gI_bm h1 h2
theorem gI_mul {x y : Int32} (h1 : -2147483648 ≤ x.toInt * y.toInt) (h2 : x.toInt * y.toInt < 2147483648) : (x * y).toInt = x.toInt * y.toInt := by rw [Int32.toInt_mul]; exact gI_bm h1 h2
theorem gI_div {x y : Int32} (hx : 0 ≤ x.toInt) (hy : 0 < y.toInt) : (x / y).toInt = x.toInt / y.toInt := by
  rw [Int32.toInt_div, Int.tdiv_eq_ediv_of_nonneg hx]
  have h1 := Int.ediv_nonneg hx (Int.le_of_lt hy)
  have h2 := Int.ediv_le_self y.toInt hx
  have h3 := gI_hi x
  exact gI_bm (by omega) (by omega)
theorem gI_mod {x y : Int32} (hx : 0 ≤ x.toInt) : (x % y).toInt = x.toInt % y.toInt := by
  rw [Int32.toInt_mod, Int.tmod_eq_emod_of_nonneg hx]
theorem gI_tdiv {x y : Int32} (h : y.toInt ≠ -1) : (x / y).toInt = x.toInt.tdiv y.toInt := by
  rw [Int32.toInt_div]
  have h3 := gI_hi x
  have h4 := gI_lo x
  have h5 : (x.toInt.tdiv y.toInt).natAbs ≤ x.toInt.natAbs := by rw [Int.natAbs_tdiv]; exact Nat.div_le_self _ _
  by_cases q : x.toInt.tdiv y.toInt < 2147483648
  · exact gI_bm (by omega) q
  · exfalso
    have h6 : x.toInt = -2147483648 := by omega
    have h7 : (x.toInt.tdiv y.toInt).natAbs = 2147483648 := by omega
    rw [Int.natAbs_tdiv, h6] at h7
    have h8 : (-2147483648 : Int).natAbs = 2147483648 := by decide
    rw [h8] at h7
    have h9 : y.toInt.natAbs = 1 := by
      rcases Nat.lt_or_ge y.toInt.natAbs 2 with z | z
      · rcases Nat.eq_zero_or_pos y.toInt.natAbs with z0 | z0
        · rw [z0] at h7; exact absurd h7 (by decide)
        · omega
      · have z2 : Nat.div 2147483648 y.toInt.natAbs ≤ 2147483648 / 2 := Nat.div_le_div_left z (by decide)
        omega
    have h10 : y.toInt = 1 := by omega
    rw [h10, Int.tdiv_one] at q
    omega
theorem gI_ext {x y : Int32} (h : x.toInt = y.toInt) : x = y := Int32.toInt_inj.mp h
theorem gI_le {x y : Int32} : x ≤ y ↔ x.toInt ≤ y.toInt := Int32.le_iff_toInt_le
theorem gI_lt {x y : Int32} : x < y ↔ x.toInt < y.toInt := Int32.lt_iff_toInt_lt
theorem gL_le {x y : Int64} : x ≤ y ↔ x.toInt ≤ y.toInt := Int64.le_iff_toInt_le
theorem gL_lt {x y : Int64} : x < y ↔ x.toInt < y.toInt := Int64.lt_iff_toInt_lt
theorem gI_l (x : Int32) : x.toInt64.toInt = x.toInt := Int32.toInt_toInt64 x
theorem gI_clamp {x : Int32} (h : 0 ≤ x.toInt) : (x.toNatClampNeg : Int) = x.toInt := by
  show ((x.toInt.toNat : Nat) : Int) = x.toInt
  omega
theorem gI_nI {x : Int32} (h : 0 ≤ x.toInt) : x = nI x.toNatClampNeg := gI_ext (by
  have := gI_clamp h
  have h2 := gI_hi x
  rw [nI_toInt (by omega)]; omega)
theorem gI_divL {x y : Int32} {d : Int} (hx : 0 ≤ x.toInt) (hy : y.toInt = d) (hd : 0 < d) : (x / y).toInt = x.toInt / d := by rw [gI_div hx (by omega), hy]
theorem gI_modL {x y : Int32} {d : Int} (hx : 0 ≤ x.toInt) (hy : y.toInt = d) : (x % y).toInt = x.toInt % d := by rw [gI_mod hx, hy]
theorem gI_modB {x y : Int32} {d : Int} (hy : y.toInt = d) (hd : 0 < d) : -d < (x % y).toInt ∧ (x % y).toInt < d := by
  rw [Int32.toInt_mod, hy]
  exact tmod_bounds hd
