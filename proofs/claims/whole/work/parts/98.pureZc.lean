/-! PURE Zc: the head and the tail of a formatted instr. -/
theorem FR.tl {k a n : Nat} {f s : Nat → Int32} (h : FR k f s) (hn : n = 16 ∨ n = 34) (hk : k ≤ n) (hk2 : k + 11 ≤ 34) (ha : a < 256) : ∃ s1 s2 : Nat → Int32, f_X7_showsName (nI (k + 1)) (upd s k 32) 399641 = (nI (k + 5), s1) ∧ f_X7_showsLocation (nI (k + 5)) s1 (nI a) = (nI (flK (k + gLn 20) a), s2) ∧
    FR (flK (k + gLn 20) a) (flF (k + gLn 20) a (sbN (k + gLn 20) n) (va_cpy (gBy 20) (sbF (k + gLn 20) n f) 0 k (gLn 20))) s2 := by
  have tL := th_ends.2.2.1
  have hg := h.grow (q := k + gLn 20) hk hn (by omega)
  obtain ⟨s1, e1, r1⟩ := FR.thn (k := k) (f := sbF (k + gLn 20) n f) (s := s) (by omega)
  have h1 := sbN_ok (q := k + gLn 20) hn (by omega)
  obtain ⟨s2, e2, r2⟩ := FR.loc (k := k + 5) (a := a) (n := sbN (k + gLn 20) n) (f := va_cpy (gBy 20) (sbF (k + gLn 20) n f) 0 k (gLn 20)) (s := s1) ha h1.1 (by omega) (by omega)
  rw [show k + 5 + 1 = k + gLn 20 by omega] at e2 r2
  have q := r1 hg
  rw [show k + 6 = k + gLn 20 by omega] at q
  exact ⟨s1, s2, e1, e2, r2 q⟩
theorem FR.hd {i n : Nat} {f s : Nat → Int32} {mn : Nat → Int64} (hmn : ∀ k : Nat, k < 16 → (mn k).toInt = (wc k : Int)) (hi : i < 16) : ∃ s' : Nat → Int32, f_X7_showsName 0 s (mn i) = (nI (0 + gLn i), s') ∧ FR (0 + gLn i) (va_cpy (gBy i) (sbF (0 + gLn i) n f) 0 0 (gLn i)) s' := by
  obtain ⟨s1, e1, r1⟩ := FR.mnem (k := 0) (f := sbF (0 + gLn i) n f) (s := s) hmn (by omega) hi
  exact ⟨s1, e1, r1 (fun j hj => absurd hj (Nat.not_lt_zero j))⟩
theorem gLn_16 : ∀ i : Nat, i < 16 → 1 ≤ gLn i ∧ gLn i ≤ 5 := by decide +kernel
/-- which form an operation's operand has -/
theorem form_tab : ∀ o : Nat, o < 16 → ((f_X3_operandForm (nI o) = 1 ↔ ¬ f_X7_hasOperand (nI o) = 0) ∧ (f_X3_operandForm (nI o) = 2 ↔ (nI o = 8 ∨ nI o = 9)) ∧ (¬ f_X7_hasOperand (nI o) = 0 → ¬ (nI o = 8 ∨ nI o = 9))) := by decide +kernel
