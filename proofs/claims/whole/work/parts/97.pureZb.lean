/-! PURE Zb: the mnemonics and " then " -/
theorem wc_tab : ∀ i : Nat, i < 16 → dgc (wc i : Int) = gLn i ∧ (Int64.ofNat (wc i)).toInt = (wc i : Int) ∧ (0 ≤ (wc i : Int) ∧ (wc i : Int) < 387420489) ∧ ∀ j : Nat, j < gLn i → gBy i j &&& 255 = ltr (Int64.ofNat (wc i)) (gLn i - 1 - j) := by decide +kernel
theorem FR.mnem {k i : Nat} {f s : Nat → Int32} {mn : Nat → Int64} (hmn : ∀ k : Nat, k < 16 → (mn k).toInt = (wc k : Int)) (hk : k ≤ 30) (hi : i < 16) : ∃ s' : Nat → Int32, f_X7_showsName (nI k) s (mn i) = (nI (k + gLn i), s') ∧ (FR k f s → FR (k + gLn i) (va_cpy (gBy i) f 0 k (gLn i)) s') := by
  obtain ⟨a, b, c, d⟩ := wc_tab i hi
  have h := hmn i hi
  have e : mn i = Int64.ofNat (wc i) := Int64.toInt_inj.mp (h.trans b.symm)
  rw [← e] at d
  exact FR.name hk (by rw [h]; exact c) (by rw [h]; exact a) d
theorem th_tab : ∀ i : Nat, i < 4 → gBy 20 (i + 1) &&& 255 = ltr 399641 (3 - i) := by decide +kernel
theorem th_ends : gBy 20 0 &&& 255 = 32 ∧ gBy 20 5 &&& 255 = 32 ∧ gLn 20 = 6 ∧ dgc (399641 : Int64).toInt = 4 ∧ 0 ≤ (399641 : Int64).toInt ∧ (399641 : Int64).toInt < 387420489 := by decide +kernel
theorem FR.thn {k : Nat} {f s : Nat → Int32} (hk : k ≤ 28) : ∃ s' : Nat → Int32, f_X7_showsName (nI (k + 1)) (upd s k 32) 399641 = (nI (k + 5), s') ∧ (FR k f s → FR (k + 6) (va_cpy (gBy 20) f 0 k (gLn 20)) (upd s' (k + 5) 32)) := by
  obtain ⟨t0, t5, tL, tD, tr1, tr2⟩ := th_ends
  have e := name_nI (k := k + 1) (s := upd s k 32) (p0 := 399641) (by omega) ⟨tr1, tr2⟩
  rw [tD] at e
  refine ⟨_, e, fun h => ?_⟩
  intro j hj
  rw [tL]
  unfold va_cpy
  by_cases c0 : j < k
  · rw [if_neg (by omega), pu (by omega)]
    show _ = if k + 1 ≤ j ∧ j < k + 1 + 4 then _ else upd s k 32 j
    rw [if_neg (by omega), pu (by omega)]
    exact h j c0
  · rw [if_pos (by omega), Nat.zero_add]
    by_cases c1 : j = k
    · subst c1
      rw [pu (by omega), Nat.sub_self]
      show _ = if j + 1 ≤ j ∧ j < j + 1 + 4 then _ else upd s j 32 j
      rw [if_neg (by omega), pus]
      exact t0
    · by_cases c5 : j = k + 5
      · subst c5
        rw [pus, show k + 5 - k = 5 by omega]
        exact t5
      · rw [pu c5]
        show _ = if k + 1 ≤ j ∧ j < k + 1 + 4 then ltr 399641 (k + 1 + 4 - 1 - j) else _
        rw [if_pos (by omega), show j - k = (j - k - 1) + 1 by omega, th_tab (j - k - 1) (by omega)]
        congr 1
        omega
