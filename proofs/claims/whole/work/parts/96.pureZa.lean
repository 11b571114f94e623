/-! PURE Za: names and their letters -/
def ltr : Int64 → Nat → Int32
  | x, 0 => Int64.toInt32 (x - (x / 27) * 27) + 96
  | x, d + 1 => ltr (x / 27) d
theorem nI_pd (a : Nat) : nI (a + 1) - 1 = nI a := by
  rw [← nI_1, Int32.add_sub_cancel]
theorem sw_loop {k : Nat} {s0 : Nat → Int32} {p0 : Int64} : ∀ (D n : Nat) (z : Nat → Int32) (x : Int64), D < n → D + k < 100 →
    wl_X7_showsName (nI k) s0 p0 n z x (nI (k + D) - 1) = ((wl_X7_sn1 7 (nI k) p0).1, fun j => if k ≤ j ∧ j < k + D then ltr x (k + D - 1 - j) else z j) := by
  intro D
  induction D with
  | zero =>
    intro n z x hn hk
    obtain ⟨m, rfl⟩ : ∃ m, n = m + 1 := ⟨n - 1, by omega⟩
    have o1 : (1 : Int32).toInt = 1 := by decide
    have o2 := nI_toInt (n := k) (by omega)
    have c : nI (k + 0) - 1 < nI k := by
      rw [gI_lt, Nat.add_zero, gI_sub (by omega) (by omega)]
      omega
    have e : wl_X7_showsName (nI k) s0 p0 (m + 1) z x (nI (k + 0) - 1) = if nI (k + 0) - 1 < nI k then ((wl_X7_sn1 7 (nI k) p0).1, z) else _ := rfl
    rw [e, if_pos c]
    refine Prod.ext rfl (funext fun j => ?_)
    show z j = if k ≤ j ∧ j < k + 0 then _ else z j
    rw [if_neg (by omega)]
  | succ D ih =>
    intro n z x hn hk
    obtain ⟨m, rfl⟩ : ∃ m, n = m + 1 := ⟨n - 1, by omega⟩
    have e0 : nI (k + (D + 1)) - 1 = nI (k + D) := nI_pd (k + D)
    rw [e0]
    have c : ¬ nI (k + D) < nI k := fun y => by
      have := (nI_ltI (by omega) (by omega)).mp y
      omega
    have e : wl_X7_showsName (nI k) s0 p0 (m + 1) z x (nI (k + D)) = if nI (k + D) < nI k then ((wl_X7_sn1 7 (nI k) p0).1, z) else wl_X7_showsName (nI k) s0 p0 m (upd z (Int32.toNatClampNeg (nI (k + D))) (ltr x 0)) (x / 27) (nI (k + D) + (-1)) := rfl
    rw [e, if_neg c, nI_clamp (by omega), ← Int32.sub_eq_add_neg, ih m _ _ (by omega) (by omega)]
    refine Prod.ext rfl (funext fun j => ?_)
    show (if k ≤ j ∧ j < k + D then ltr (x / 27) (k + D - 1 - j) else upd z (k + D) (ltr x 0) j) = if k ≤ j ∧ j < k + (D + 1) then ltr x (k + (D + 1) - 1 - j) else z j
    by_cases c1 : k ≤ j ∧ j < k + D
    · rw [if_pos c1, if_pos (by omega), show k + (D + 1) - 1 - j = (k + D - 1 - j) + 1 by omega]
      rfl
    · rw [if_neg c1]
      by_cases c2 : j = k + D
      · subst c2
        rw [pus, if_pos (by omega), show k + (D + 1) - 1 - (k + D) = 0 by omega]
      · rw [pu c2, if_neg (by omega)]
theorem name_nI {k : Nat} {s : Nat → Int32} {p0 : Int64} (hk : k ≤ 30) (hp : 0 ≤ p0.toInt ∧ p0.toInt < 387420489) :
    f_X7_showsName (nI k) s p0 = (nI (k + dgc p0.toInt), fun j => if k ≤ j ∧ j < k + dgc p0.toInt then ltr p0 (k + dgc p0.toInt - 1 - j) else s j) := by
  have hD := dgc_le p0.toInt
  have o2 := nI_toInt (n := k) (by omega)
  have e1 := sn_cnt (shm := nI k) (p0 := p0) (by omega) 7 p0 (nI k) ⟨hp, rfl, by omega, by omega⟩ (by omega)
  have e2 : (wl_X7_sn1 7 (nI k) p0).1 = nI (k + dgc p0.toInt) := gI_ext (by rw [e1, o2, nI_toInt (n := k + dgc p0.toInt) (by omega)]; omega)
  unfold f_X7_showsName
  rw [e2, sw_loop (dgc p0.toInt) 41 s p0 (by omega) (by omega), e2]
/-- a name, as both programs lay it -/
theorem FR.name {k N : Nat} {f s b : Nat → Int32} {p0 : Int64} (hk : k ≤ 30) (hp : 0 ≤ p0.toInt ∧ p0.toInt < 387420489) (hN : dgc p0.toInt = N) (hb : ∀ j : Nat, j < N → b j &&& 255 = ltr p0 (N - 1 - j)) : ∃ s' : Nat → Int32, f_X7_showsName (nI k) s p0 = (nI (k + N), s') ∧ (FR k f s → FR (k + N) (va_cpy b f 0 k N) s') := by
  subst hN
  refine ⟨_, name_nI hk hp, fun h => ?_⟩
  intro j hj
  show _ = if k ≤ j ∧ j < k + dgc p0.toInt then ltr p0 (k + dgc p0.toInt - 1 - j) else s j
  unfold va_cpy
  by_cases c : k ≤ j
  · rw [if_pos ⟨c, hj⟩, if_pos ⟨c, hj⟩, Nat.zero_add, hb (j - k) (by omega)]
    congr 1
    omega
  · rw [if_neg (fun z => c z.1), if_neg (fun z => c z.1)]
    exact h j (by omega)
