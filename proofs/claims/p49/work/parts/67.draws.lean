theorem sx_ix {p1 : Int32} (h : 0 ≤ p1.toInt ∧ p1.toInt < 32) {j : Nat} (hj : j < 20) : Int32.toNatClampNeg ((20 * p1) + (nI j)) = 20 * p1.toInt.toNat + j := by
  have o : (20 : Int32).toInt = 20 := (by decide)
  have e1 := gI_mul (x := 20) (y := p1) (by rw [o]; omega) (by rw [o]; omega)
  rw [o] at e1
  have z := nI_toInt (n := j) (by omega)
  have e2 := gI_add (x := 20 * p1) (y := nI j) (by omega) (by omega)
  have e3 := gI_clamp (x := 20 * p1 + nI j) (by omega)
  omega
def setB (p2 : Int32) (j : Nat) : Int32 := if (((p2 >>> ((nI j) &&& 31)) : Int32) &&& 1) = 1 then vp_nar .boolean 1 else vp_nar .boolean 0
theorem set_st (b : Nat → Int32) (p1 p2 : Int32) (k : Nat) : it_X8_set_3 b p1 p2 (k + 1) = upd (it_X8_set_3 b p1 p2 k) (Int32.toNatClampNeg ((20 * p1) + (nI k))) (setB p2 k) := by
  show st_X8_set_3 p1 p2 k _ = _
  unfold st_X8_set_3 setB
  split <;> rfl
theorem set_out {b : Nat → Int32} {p1 p2 : Int32} (h : 0 ≤ p1.toInt ∧ p1.toInt < 32) {i : Nat} (hi : i < 20 * p1.toInt.toNat ∨ 20 * p1.toInt.toNat + 20 ≤ i) : ∀ k : Nat, k ≤ 20 → it_X8_set_3 b p1 p2 k i = b i
  | 0, _ => rfl
  | k + 1, hk => by
    rw [set_st, sx_ix h (by omega)]
    unfold upd
    rw [if_neg (by omega)]
    exact set_out h hi k (by omega)
theorem set_in {b : Nat → Int32} {p1 p2 : Int32} (h : 0 ≤ p1.toInt ∧ p1.toInt < 32) {j : Nat} : ∀ k : Nat, k ≤ 20 → j < k → it_X8_set_3 b p1 p2 k (20 * p1.toInt.toNat + j) = setB p2 j
  | 0, _, hj => absurd hj (Nat.not_lt_zero _)
  | k + 1, hk, hj => by
    rw [set_st, sx_ix h (by omega)]
    unfold upd
    by_cases e : j = k
    · subst e
      rw [if_pos rfl]
    · rw [if_neg (by omega)]
      exact set_in h k (by omega) (by omega)
theorem setB_W : ∀ j, j < 20 → setB 35628 j = bwW (20 + j) := by decide +kernel
theorem set_W {b : Nat → Int32} : RowW (f_X8_set b 1 35628) := fun i h1 h2 => by
  have o : (1 : Int32).toInt = 1 := (by decide)
  have e := set_in (b := b) (p1 := 1) (p2 := 35628) (by omega) (j := i - 20) 20 (Nat.le_refl _) (by omega)
  rw [o] at e
  have e2 : 20 * (1 : Int).toNat + (i - 20) = i := by show 20 * 1 + _ = _; omega
  rw [e2] at e
  unfold f_X8_set
  rw [e, setB_W _ (by omega), show 20 + (i - 20) = i by omega]
theorem set_K {b : Nat → Int32} {p1 p2 : Int32} (h : 0 ≤ p1.toInt ∧ p1.toInt < 32) (hn : ¬ p1 = 1) (hb : RowW b) : RowW (f_X8_set b p1 p2) := fun i h1 h2 => by
  have o : (1 : Int32).toInt = 1 := (by decide)
  have hne : ¬ p1.toInt = 1 := fun q => hn (gI_ext (q.trans o.symm))
  unfold f_X8_set
  rw [set_out h (by omega) 20 (Nat.le_refl _)]
  exact hb i h1 h2
theorem t8 {t : Int32} (h : 0 ≤ t.toInt ∧ t.toInt < 8) : t = 0 ∨ t = 1 ∨ t = 2 ∨ t = 3 ∨ t = 4 ∨ t = 5 ∨ t = 6 ∨ t = 7 := by
  have e : ∀ k : Int32, t.toInt = k.toInt → t = k := fun k q => gI_ext q
  have c : t.toInt = 0 ∨ t.toInt = 1 ∨ t.toInt = 2 ∨ t.toInt = 3 ∨ t.toInt = 4 ∨ t.toInt = 5 ∨ t.toInt = 6 ∨ t.toInt = 7 := by omega
  rcases c with c | c | c | c | c | c | c | c
  · exact Or.inl (e 0 (c.trans (by decide)))
  · exact Or.inr (Or.inl (e 1 (c.trans (by decide))))
  · exact Or.inr (Or.inr (Or.inl (e 2 (c.trans (by decide)))))
  · exact Or.inr (Or.inr (Or.inr (Or.inl (e 3 (c.trans (by decide))))))
  · exact Or.inr (Or.inr (Or.inr (Or.inr (Or.inl (e 4 (c.trans (by decide)))))))
  · exact Or.inr (Or.inr (Or.inr (Or.inr (Or.inr (Or.inl (e 5 (c.trans (by decide))))))))
  · exact Or.inr (Or.inr (Or.inr (Or.inr (Or.inr (Or.inr (Or.inl (e 6 (c.trans (by decide)))))))))
  · exact Or.inr (Or.inr (Or.inr (Or.inr (Or.inr (Or.inr (Or.inr (e 7 (c.trans (by decide)))))))))
/-- the next number below n -/
def nxA (x n : Int32) : Int32 := (f_X7_next x n).1
def nxX (x : Int32) : Int32 := (x * 1103515245) + 12345
theorem ushr16 (x : Int32) : 0 ≤ (gUshr x 16).toInt ∧ (gUshr x 16).toInt < 65536 := by
  unfold gUshr
  have e : (Int32.toUInt32 16) = 16 := rfl
  have e2 : (x.toUInt32 >>> (Int32.toUInt32 16 &&& Int32.toUInt32 31)).toNat < 65536 := by
    have e3 : (Int32.toUInt32 16 &&& Int32.toUInt32 31) = 16 := by decide
    rw [e3, UInt32.toNat_shiftRight]
    have := x.toUInt32.toNat_lt
    show _ >>> 16 < _
    rw [Nat.shiftRight_eq_div_pow]
    omega
  generalize (x.toUInt32 >>> (Int32.toUInt32 16 &&& Int32.toUInt32 31)) = y at e2 ⊢
  have e4 : y.toInt32.toInt = (y.toNat : Int) := by
    have h1 : y.toInt32.toInt = y.toBitVec.toInt := rfl
    rw [h1, BitVec.toInt_eq_toNat_of_lt (by show 2 * y.toNat < _; omega)]
    rfl
  omega
theorem nx_rng {x n : Int32} {d : Nat} (hn : n.toInt = d) (hd : 0 < d) : 0 ≤ (nxA x n).toInt ∧ (nxA x n).toInt < d := by
  have h := ushr16 ((x * 1103515245) + 12345)
  show 0 ≤ ((gUshr ((x * 1103515245) + 12345) 16) % n).toInt ∧ _
  rw [show nxA x n = (gUshr ((x * 1103515245) + 12345) 16) % n from rfl, Int32.toInt_mod, hn, Int.tmod_eq_emod_of_nonneg h.1]
  have h1 := Int.emod_nonneg (gUshr ((x * 1103515245) + 12345) 16).toInt (b := (d : Int)) (by omega)
  have h2 := Int.emod_lt_of_pos (gUshr ((x * 1103515245) + 12345) 16).toInt (b := (d : Int)) (by omega)
  omega
