/-! PURE A: words of 20 bits: their sign, their fields, their bits -/
theorem wA_c44 : ((Int32.toInt64 44) &&& 63) = 44 := by decide
theorem wA_k44 : ((44 : Int64).toBitVec.smod 64).toNat = 44 := by decide
theorem wA_cond (v : Int64) : v.toInt = if 2 * v.toBitVec.toNat < 18446744073709551616 then (v.toBitVec.toNat : Int) else (v.toBitVec.toNat : Int) - 18446744073709551616 := BitVec.toInt_eq_toNat_cond _
theorem wA_low (v : Int64) : v.toInt % 1048576 = (v.toBitVec.toNat : Int) % 1048576 := by
  rw [wA_cond v]
  split
  · rfl
  · omega
theorem wA_shl (v : Int64) : (v <<< (44 : Int64)).toBitVec.toNat = v.toBitVec.toNat % 1048576 * 17592186044416 := by
  have e : (2 : Nat) ^ 64 = 1048576 * 17592186044416 := by decide
  have e2 : (2 : Nat) ^ 44 = 17592186044416 := by decide
  show (v.toBitVec <<< ((44 : Int64).toBitVec.smod 64).toNat).toNat = _
  rw [wA_k44, BitVec.toNat_shiftLeft, Nat.shiftLeft_eq, e, e2, Nat.mul_mod_mul_right]
theorem wA_shr (v : Int64) : (v >>> (44 : Int64)).toInt = v.toInt / 17592186044416 := by
  show (v.toBitVec.sshiftRight ((44 : Int64).toBitVec.smod 64).toNat).toInt = _
  rw [wA_k44, BitVec.toInt_sshiftRight, Int.shiftRight_eq_div_pow]
  rfl
/-- the lowest 20 bits with their sign -/
def s20 (z : Int) : Int := if z % 1048576 < 524288 then z % 1048576 else z % 1048576 - 1048576
theorem s20_of {z y : Int} (h : z % 1048576 = y % 1048576) : s20 z = s20 y := by unfold s20; rw [h]
theorem s20_rng (z : Int) : -524288 ≤ s20 z ∧ s20 z < 524288 := by
  unfold s20
  split <;> omega
theorem s20_low (z : Int) : s20 z % 1048576 = z % 1048576 := by
  unfold s20
  split <;> omega
theorem s20_self {z : Int} (h : -524288 ≤ z ∧ z < 524288) : s20 z = z := by
  unfold s20
  split <;> omega
theorem wA_both (v : Int64) : ((v <<< (44 : Int64)) >>> (44 : Int64)).toInt = s20 v.toInt := by
  rw [wA_shr, wA_cond (v <<< (44 : Int64)), wA_shl, s20, wA_low]
  generalize v.toBitVec.toNat = n
  have hm : n % 1048576 < 1048576 := Nat.mod_lt _ (by decide)
  have hc : ((n : Int) % 1048576) = ((n % 1048576 : Nat) : Int) := by omega
  rw [hc]
  generalize n % 1048576 = m at *
  by_cases c : m < 524288
  · rw [if_pos (by omega), if_pos (by omega)]
    have e : ((m * 17592186044416 : Nat) : Int) = (m : Int) * 17592186044416 := by omega
    rw [e]
    exact Int.mul_ediv_cancel _ (by decide)
  · rw [if_neg (by omega), if_neg (by omega)]
    have e : ((m * 17592186044416 : Nat) : Int) - 18446744073709551616 = ((m : Int) - 1048576) * 17592186044416 := by omega
    rw [e]
    exact Int.mul_ediv_cancel _ (by decide)
theorem wr_x6 (v : Int64) : (f_X6_wrap v).toInt = s20 v.toInt := by
  unfold f_X6_wrap
  have h := s20_rng v.toInt
  rw [wA_c44, Int64.toInt_toInt32, wA_both]
  exact gI_bm (by omega) (by omega)
theorem wA_mask (v : Int64) : (v &&& 1048575).toInt = v.toInt % 1048576 := by
  have h5 : (v &&& 1048575).toBitVec.toNat = v.toBitVec.toNat % 1048576 := by
    have e : (1048575 : Int64).toBitVec.toNat = 2 ^ 20 - 1 := by decide
    rw [Int64.toBitVec_and, BitVec.toNat_and, e, Nat.and_two_pow_sub_one_eq_mod]
  rw [wA_cond, h5, wA_low]
  generalize v.toBitVec.toNat = n
  have hm : n % 1048576 < 1048576 := Nat.mod_lt _ (by decide)
  rw [if_pos (by omega)]
  omega
theorem wr_x7 (v : Int64) : (f_X7_wrap v).toInt = s20 v.toInt := by
  unfold f_X7_wrap
  have h0 : 0 ≤ v.toInt % 1048576 ∧ v.toInt % 1048576 < 1048576 := by omega
  have h1 : (Int64.toInt32 (v &&& 1048575)).toInt = v.toInt % 1048576 := by
    rw [Int64.toInt_toInt32, wA_mask]
    exact gI_bm (by omega) (by omega)
  generalize Int64.toInt32 (v &&& 1048575) = y at *
  unfold s20
  rw [← h1]
  rw [← h1] at h0
  have e1 : (524287 : Int32).toInt = 524287 := by decide
  have e2 : (1048575 : Int32).toInt = 1048575 := by decide
  have e3 : (1 : Int32).toInt = 1 := by decide
  have a1 := gI_sub (x := y) (y := 1048575) (by omega) (by omega)
  have a2 := gI_sub (x := y - 1048575) (y := 1) (by omega) (by omega)
  split
  · next h => rw [gI_le] at h; rw [if_pos (by omega)]
  · next h => rw [gI_le] at h; rw [if_neg (by omega)]; omega
theorem wrap_eq (v : Int64) : f_X6_wrap v = f_X7_wrap v := gI_ext (by rw [wr_x6, wr_x7])
/-- a word as its 20 bits, with the sign that they have -/
def sg (x : Int32) : Int32 := f_X6_wrap (Int32.toInt64 x)
theorem sg_toInt (x : Int32) : (sg x).toInt = s20 x.toInt := by
  unfold sg
  rw [wr_x6, gI_l]
theorem sg_x7 (x : Int32) : f_X7_wrap (Int32.toInt64 x) = sg x := (wrap_eq _).symm
theorem sg_low (x : Int32) : (sg x).toInt % 1048576 = x.toInt % 1048576 := by
  rw [sg_toInt, s20_low]
theorem sg_rng (x : Int32) : -524288 ≤ (sg x).toInt ∧ (sg x).toInt < 524288 := by
  rw [sg_toInt]
  exact s20_rng _
theorem sg_self {x : Int32} (h : -524288 ≤ x.toInt ∧ x.toInt < 524288) : sg x = x := gI_ext (by
  rw [sg_toInt, s20_self h])
theorem sg_mask (x : Int32) : sg (x &&& 1048575) = sg x := gI_ext (by
  rw [sg_toInt, sg_toInt, gI_and20]
  exact s20_of (by omega))
theorem mask_sg (x : Int32) : (sg x) &&& 1048575 = x &&& 1048575 := gI_ext (by
  rw [gI_and20, gI_and20, sg_low])
theorem mask_rng (x : Int32) : 0 ≤ (x &&& 1048575).toInt ∧ (x &&& 1048575).toInt < 1048576 := by
  rw [gI_and20]
  omega
theorem mask_self {x : Int32} (h : 0 ≤ x.toInt ∧ x.toInt < 1048576) : x &&& 1048575 = x := gI_ext (by
  rw [gI_and20]
  omega)
theorem sg_zero {x : Int32} (h : 0 ≤ x.toInt ∧ x.toInt < 1048576) : sg x = 0 ↔ x = 0 := by
  have e0 : (0 : Int32).toInt = 0 := by decide
  have e := sg_toInt x
  unfold s20 at e
  constructor
  · intro q
    rw [q] at e
    exact gI_ext (by omega)
  · intro q
    rw [q] at e
    exact gI_ext (by rw [q]; omega)
/-- numbers that agree in their lowest 20 bits agree in their fields -/
def SL (x y : Int32) : Prop := x.toInt % 1048576 = y.toInt % 1048576
theorem SL_sg (x : Int32) : SL (sg x) x := sg_low x
theorem SL.rf (x : Int32) : SL x x := rfl
theorem shr_I (x : Int32) {s : Int32} (k : Nat) (hs : ((s &&& 31).toBitVec.smod 32).toNat = k) : (x >>> (s &&& 31)).toInt = x.toInt / 2 ^ k := by
  rw [pk_shr x (s &&& 31) k hs, Int.shiftRight_eq_div_pow]
  first | rfl | simp
theorem shr_4 (x : Int32) : (x >>> ((4 : Int32) &&& 31)).toInt = x.toInt / 16 := shr_I x 4 (by decide)
theorem shr_7 (x : Int32) : (x >>> ((7 : Int32) &&& 31)).toInt = x.toInt / 128 := shr_I x 7 (by decide)
theorem shr_12 (x : Int32) : (x >>> ((12 : Int32) &&& 31)).toInt = x.toInt / 4096 := shr_I x 12 (by decide)
theorem shr_15 (x : Int32) : (x >>> ((15 : Int32) &&& 31)).toInt = x.toInt / 32768 := shr_I x 15 (by decide)
theorem SL_op {x y : Int32} (h : SL x y) : x &&& 15 = y &&& 15 := gI_ext (by
  unfold SL at h
  rw [gI_and15, gI_and15]
  omega)
theorem SL_4 {x y : Int32} (h : SL x y) : (x >>> ((4 : Int32) &&& 31)) &&& 7 = (y >>> ((4 : Int32) &&& 31)) &&& 7 := gI_ext (by
  unfold SL at h
  rw [gI_and7, gI_and7, shr_4, shr_4]
  omega)
theorem SL_7 {x y : Int32} (h : SL x y) : (x >>> ((7 : Int32) &&& 31)) &&& 31 = (y >>> ((7 : Int32) &&& 31)) &&& 31 := gI_ext (by
  unfold SL at h
  rw [gI_and31, gI_and31, shr_7, shr_7]
  omega)
theorem SL_12 {x y : Int32} (h : SL x y) : (x >>> ((12 : Int32) &&& 31)) &&& 7 = (y >>> ((12 : Int32) &&& 31)) &&& 7 := gI_ext (by
  unfold SL at h
  rw [gI_and7, gI_and7, shr_12, shr_12]
  omega)
theorem SL_15 {x y : Int32} (h : SL x y) : (x >>> ((15 : Int32) &&& 31)) &&& 31 = (y >>> ((15 : Int32) &&& 31)) &&& 31 := gI_ext (by
  unfold SL at h
  rw [gI_and31, gI_and31, shr_15, shr_15]
  omega)
theorem SL_4095 {x y : Int32} (h : SL x y) : x &&& 4095 = y &&& 4095 := gI_ext (by
  unfold SL at h
  rw [gI_and12, gI_and12]
  omega)
theorem SL_opcode {x y : Int32} (h : SL x y) : f_X3_opcode x = y &&& 15 := SL_op h
theorem SL_operand {x y : Int32} (h : SL x y) : f_X3_operand x = f_X7_operandOf y := by
  unfold f_X3_operand f_X7_operandOf f_X6_locationOf
  rw [SL_4 h, SL_7 h]
theorem SL_next {x y : Int32} (h : SL x y) : f_X3_next x = f_X7_nextOf y := by
  unfold f_X3_next f_X7_nextOf f_X6_locationOf
  rw [SL_12 h, SL_15 h]
/-- places and tanks as naturals -/
theorem of_rng {x : Int32} {N : Nat} (hN : N < 2147483648) (h : 0 ≤ x.toInt ∧ x.toInt < (N : Int)) : ∃ n, n < N ∧ x = nI n := ⟨x.toNatClampNeg, by have := gI_clamp h.1; omega, gI_nI h.1⟩
theorem ixA (c k : Nat) (h : c + k < 2147483648) : (nI c + nI k).toNatClampNeg = c + k := by rw [nI_add, nI_clamp h]
theorem nI_lit414 : (414 : Int32) = nI 414 := rfl
theorem nI_lit158 : (158 : Int32) = nI 158 := rfl
theorem nI_lit30 : (30 : Int32) = nI 30 := rfl
theorem nI_lit94 : (94 : Int32) = nI 94 := rfl
theorem nI_lit22 : (22 : Int32) = nI 22 := rfl
theorem nI_lit14 : (14 : Int32) = nI 14 := rfl
theorem nI_lit32 : (32 : Int32) = nI 32 := rfl
theorem ix414 {k : Nat} (h : k < 256) : (414 + nI k).toNatClampNeg = 414 + k := ixA 414 k (by omega)
theorem ix158 {k : Nat} (h : k < 256) : (158 + nI k).toNatClampNeg = 158 + k := ixA 158 k (by omega)
theorem ix22 {k : Nat} (h : k < 8) : (22 + nI k).toNatClampNeg = 22 + k := ixA 22 k (by omega)
theorem ix14 {k : Nat} (h : k < 8) : (14 + nI k).toNatClampNeg = 14 + k := ixA 14 k (by omega)
theorem loc_nI (t c : Nat) : (32 : Int32) * nI t + nI c = nI (32 * t + c) := by
  rw [nI_lit32, pk_mul, nI_add]
theorem locOf_nI (t c : Nat) : f_X6_locationOf (nI t) (nI c) = nI (32 * t + c) := loc_nI t c
theorem ix414t (t c : Nat) : (414 + 32 * nI t) + nI c = nI (414 + 32 * t + c) := by
  rw [nI_lit32, pk_mul, nI_lit414, nI_add, nI_add]
theorem ix255 {k : Nat} (h : k < 256) : (nI k &&& 255).toNatClampNeg = k := by
  rw [pk_andN (n := k) (by omega) 8 (by decide), Nat.mod_eq_of_lt (by omega), nI_clamp (by omega)]
theorem ix7 {k : Nat} (h : k < 8) : (nI k &&& 7).toNatClampNeg = k := by
  rw [pk_andN (n := k) (by omega) 3 (by decide), Nat.mod_eq_of_lt (by omega), nI_clamp (by omega)]
theorem cyc_nI {k : Nat} (h : k < 2147483648) : f_X6_cycleOf (nI k) = nI (k % 32) := pk_andN (n := k) (by omega) 5 (by decide)
theorem mod32_nI {k : Nat} (h : k < 2147483648) : nI k % 32 = nI (k % 32) := gI_ext (by
  have e := nI_toInt (n := k) (by omega)
  rw [gI_modL (d := 32) (by omega) (by decide), e, nI_toInt (by omega)]
  omega)
theorem div32_nI {k : Nat} (h : k < 2147483648) : nI k / 32 = nI (k / 32) := pk_div (d := 32) (by omega) (by decide) (by decide)
theorem wU_nI {a b : Nat} (ha : a < 1073741824) (hb : b < 1073741824) : f_X6_waitingUntil (nI a) (nI b) = nI ((a + 32 * b - b) % 32) := gI_ext (by
  unfold f_X6_waitingUntil
  rw [gI_and31, pk_sub_toInt (by omega) (by omega), nI_toInt (by omega)]
  omega)
theorem wF_nI {c t : Nat} (hc : c < 32) (ht : t < 1073741824) : ((nI c - (nI t % 32)) + 32) % 32 = nI ((c + 32 * t - t) % 32) := gI_ext (by
  have h := wait_rng (c := nI c) (t := nI t) (by rw [nI_toInt (by omega)]; omega) (by rw [nI_toInt (by omega)]; omega)
  rw [h.1, nI_toInt (by omega), nI_toInt (by omega), nI_toInt (by omega)]
  omega)
