/-! PURE Z: what is shown, step for step -/
def FR (k : Nat) (f s : Nat → Int32) : Prop := ∀ j : Nat, j < k → f j &&& 255 = s j
theorem FR.grow {k n q : Nat} {f s : Nat → Int32} (h : FR k f s) (hk : k ≤ n) (hn : n = 16 ∨ n = 34) (hq : q ≤ 34) : FR k (sbF q n f) s := by
  unfold sbF
  by_cases c : q ≤ n
  · rw [if_pos c]
    exact h
  · rw [if_neg c]
    intro j hj
    have e : va_cpy f (fun _ => 0) 0 0 16 j = f j := by
      unfold va_cpy
      rw [if_pos (by omega)]
      congr 1
      omega
    rw [e]
    exact h j hj
theorem FR.char {k : Nat} {f s : Nat → Int32} {c : Int32} (h : FR k f s) (hc : c &&& 255 = c) : FR (k + 1) (upd f k c) (upd s k c) := by
  intro j hj
  by_cases e : j = k
  · subst e
    rw [pus, pus]
    exact hc
  · rw [pu e, pu e]
    exact h j (by omega)
theorem shows_nI {k : Nat} (hk : k < 100) (s : Nat → Int32) (c : Int32) : f_X7_shows (nI k) s c = (nI (k + 1), upd s k c) := by
  unfold f_X7_shows
  rw [nI_clamp (by omega), nI_1]
theorem dg_all : ∀ j : Nat, j < 32 → (48 : Int32) + nI j % 10 = gDgv 0 j ∧ (48 : Int32) + nI j / 10 = gDgv 1 j ∧ gDgv 0 j &&& 255 = gDgv 0 j ∧ gDgv 1 j &&& 255 = gDgv 1 j := by decide +kernel
/-- a number below 32 -/
theorem FR.num {k j : Nat} {f s : Nat → Int32} (hk : k < 90) (hj : j < 32) : ∃ s' : Nat → Int32, f_X7_showsNumber (nI k) s (nI j) = (nI (k + sbD j), s') ∧ (FR k f s → FR (k + sbD j) (sbC j (k + sbD j) f) s') := by
  obtain ⟨d0, d1, d2, d3⟩ := dg_all j hj
  unfold f_X7_showsNumber
  rw [d0, d1]
  by_cases c : j < 10
  · have c2 : nI j ≤ 9 := (nI_leI (b := 9) (by omega) (by omega)).mpr (by omega)
    have e1 : sbD j = 1 := if_pos c
    rw [if_pos c2, shows_nI (by omega), e1]
    refine ⟨_, rfl, fun h => ?_⟩
    have e2 : sbC j (k + 1) f = upd f k (gDgv 0 j) := if_pos c
    rw [e2]
    exact h.char d2
  · have c2 : ¬ nI j ≤ 9 := fun z => c (by
      have := (nI_leI (b := 9) (by omega) (by omega)).mp z
      omega)
    have e1 : sbD j = 2 := if_neg c
    rw [if_neg c2, shows_nI (by omega), e1]
    dsimp only
    rw [shows_nI (by omega)]
    refine ⟨_, rfl, fun h => ?_⟩
    have e2 : sbC j (k + 2) f = upd (upd f (k + 1) (gDgv 0 j)) k (gDgv 1 j) := if_neg c
    rw [e2]
    show FR (k + 2) (upd (upd f (k + 1) (gDgv 0 j)) k (gDgv 1 j)) (upd (upd s k (gDgv 1 j)) (k + 1) (gDgv 0 j))
    intro i hi
    by_cases a : i = k
    · subst a
      rw [pus, pu (show i ≠ i + 1 by omega), pus]
      exact d3
    · rw [pu a]
      by_cases b : i = k + 1
      · subst b
        rw [pus, pus]
        exact d2
      · rw [pu b, pu b, pu a]
        exact h i (by omega)
/-- a location, with the blank before it -/
theorem FR.loc {k a n : Nat} {f s : Nat → Int32} (ha : a < 256) (hn : n = 16 ∨ n = 34) (hk : k + 1 ≤ n) (hk5 : k + 6 ≤ 34) : ∃ s' : Nat → Int32, f_X7_showsLocation (nI k) s (nI a) = (nI (flK (k + 1) a), s') ∧ (FR (k + 1) f (upd s k 32) → FR (flK (k + 1) a) (flF (k + 1) a n f) s') := by
  have h0 := sbD_le (a / 32)
  have h9 := sbD_le (a % 32)
  unfold f_X7_showsLocation
  rw [shows_nI (by omega), div32_nI (by omega), mod32_nI (by omega)]
  dsimp only
  obtain ⟨s1, e1, r1⟩ := FR.num (k := k + 1) (j := a / 32) (f := sbF (k + 1 + sbD (a / 32)) n f) (s := upd s k 32) (by omega) (by omega)
  rw [e1]
  dsimp only
  rw [shows_nI (by omega)]
  dsimp only
  have h1 := sbN_ok (q := k + 1 + sbD (a / 32)) hn (by omega)
  have h2 := sbN_ok (q := k + 1 + sbD (a / 32) + 1) h1.1 (by omega)
  obtain ⟨s2, e2, r2⟩ := FR.num (k := k + 1 + sbD (a / 32) + 1) (j := a % 32) (f := sbF (flK (k + 1) a) (sbN (k + 1 + sbD (a / 32) + 1) (sbN (k + 1 + sbD (a / 32)) n)) (upd (sbF (k + 1 + sbD (a / 32) + 1) (sbN (k + 1 + sbD (a / 32)) n) (sbC (a / 32) (k + 1 + sbD (a / 32)) (sbF (k + 1 + sbD (a / 32)) n f))) (k + 1 + sbD (a / 32)) 46)) (s := upd s1 (k + 1 + sbD (a / 32)) 46) (by omega) (by omega)
  rw [e2]
  refine ⟨s2, rfl, fun h => ?_⟩
  have q1 := r1 (h.grow hk hn (by omega))
  have q2 := (q1.grow (q := k + 1 + sbD (a / 32) + 1) h1.2.1 h1.1 (by omega)).char (c := 46) (by decide)
  have q3 := q2.grow (q := flK (k + 1) a) h2.2.1 h2.1 (by unfold flK; omega)
  exact r2 q3
/-- one blank or dot -/
theorem FR.sign {k n : Nat} {f s : Nat → Int32} {c : Int32} (h : FR k f s) (hk : k ≤ n) (hn : n = 16 ∨ n = 34) (hk5 : k + 1 ≤ 34) (hc : c &&& 255 = c) : FR (k + 1) (upd (sbF (k + 1) n f) k c) (upd s k c) := (h.grow hk hn hk5).char hc
theorem cs_formattedByte {k : Nat} {f s : Nat → Int32} (hk : k ≤ 34) (h : FR k f s) (p : Int32) :
    k1 (th_X6_formattedByte k p) = (f_X7_formattedByte (nI k) s p).2 ∧ (th_X6_formattedByte k p = none → f_X6_formattedByte k f p = (f_X7_formattedByte (nI k) s p).1) := by
  have a0 := Int32.toInt_toInt64 p
  have h1 : (nI k - 1).toInt = (k : Int) - 1 := by
    have o1 : (1 : Int32).toInt = 1 := by decide
    have o2 := nI_toInt (n := k) (by omega)
    rw [gI_sub (by omega) (by omega)]
    omega
  have z0 : (0 : Int32).toInt = 0 := by decide
  have z1 : (0 : Int64).toInt = 0 := by decide
  have hk0 := nI_toInt (n := k) (by omega)
  have hin : f_X7_in (Int32.toInt64 p) 0 (Int32.toInt64 (nI k - 1)) = 0 ↔ (p < 0 ∨ ¬ p < nI k) := by
    have hb := Int32.toInt_toInt64 (nI k - 1)
    unfold f_X7_in
    rw [gI_lt, gI_lt, z0, hk0]
    by_cases c1 : Int32.toInt64 p < 0
    · rw [if_pos c1]
      rw [gL_lt, z1, a0] at c1
      exact ⟨fun _ => Or.inl c1, fun _ => rfl⟩
    · rw [if_neg c1]
      rw [gL_lt, z1, a0] at c1
      by_cases c2 : Int32.toInt64 (nI k - 1) < Int32.toInt64 p
      · rw [if_pos c2]
        rw [gL_lt, a0, hb, h1] at c2
        exact ⟨fun _ => Or.inr (by omega), fun _ => rfl⟩
      · rw [if_neg c2]
        rw [gL_lt, a0, hb, h1] at c2
        exact ⟨fun z => absurd z (by decide), fun z => by omega⟩
  unfold th_X6_formattedByte f_X6_formattedByte f_X7_formattedByte f_X7_fails
  by_cases c1 : p < 0
  · rw [if_pos c1, if_pos (hin.mpr (Or.inl c1))]
    exact ⟨rfl, fun z => absurd z (Option.some_ne_none _)⟩
  · rw [if_neg c1, if_neg c1]
    by_cases c2 : p < nI k
    · rw [if_pos c2, if_pos c2, if_neg (fun z => (hin.mp z).elim c1 (fun y => y c2))]
      rw [gI_lt, hk0] at c2
      rw [gI_lt, z0] at c1
      obtain ⟨n, hn, rfl⟩ := of_rng (x := p) (N := k) (by omega) (by omega)
      refine ⟨rfl, fun _ => ?_⟩
      dsimp only
      rw [nI_clamp (by omega)]
      exact h n hn
    · rw [if_neg c2, if_neg c2, if_pos (hin.mpr (Or.inr c2))]
      exact ⟨rfl, fun z => absurd z (Option.some_ne_none _)⟩
