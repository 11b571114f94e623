/-! PURE Zd: format -/
theorem SL_num {X Y : Int32} (h : SL X Y) : (((Y >>> ((7 : Int32) &&& 31)) : Int32) &&& 31) = nI (adN X % 32) := by
  obtain ⟨a1, a2⟩ := adN_lt X
  have e := (SL_operand h).symm.trans a2
  unfold f_X7_operandOf at e
  have r7 : ∀ z : Int32, 0 ≤ (z &&& 7).toInt ∧ (z &&& 7).toInt < 8 := fun z => by rw [gI_and7]; omega
  have r31 : ∀ z : Int32, 0 ≤ (z &&& 31).toInt ∧ (z &&& 31).toInt < 32 := fun z => by rw [gI_and31]; omega
  have u7 := r7 (Y >>> ((4 : Int32) &&& 31))
  have u31 := r31 (Y >>> ((7 : Int32) &&& 31))
  generalize ((Y >>> ((4 : Int32) &&& 31)) : Int32) &&& 7 = u at *
  generalize ((Y >>> ((7 : Int32) &&& 31)) : Int32) &&& 31 = v at *
  have e32 : (32 : Int32).toInt = 32 := by decide
  have m1 := gI_mul (x := 32) (y := u) (by rw [e32]; omega) (by rw [e32]; omega)
  rw [e32] at m1
  have m2 := gI_add (x := 32 * u) (y := v) (by omega) (by omega)
  rw [e, nI_toInt (by omega)] at m2
  exact gI_ext (by rw [nI_toInt (n := adN X % 32) (by omega)]; omega)
section CRf
variable {T : Nat} {tm et wt sta he ac ov dr pt ot fp on fi li fo lo : Int32} {bits slips temps rin rout cnt w : Nat → Int32}
set_option maxHeartbeats 4000000 in
theorem cs_format (h : CR T tm et wt sta he ac ov dr bits slips pt ot fp on temps fi li rin fo lo rout cnt w) {mn : Nat → Int64} (hmn : ∀ k : Nat, k < 16 → (mn k).toInt = (wc k : Int)) {ml : Int32} {k n : Nat} {f s : Nat → Int32} (hn : n = 16 ∨ n = 34) (hkn : k ≤ n) (hk : k ≤ 34) (h0 : FR k f s) (p q : Int32) :
    k1 (th_X6_format p q) = (f_X7_format (nI k) w mn s p q).2.1 ∧ (th_X6_format p q = none → (f_X6_format bits ml k n f p q).1 = (f_X7_format (nI k) w mn s p q).1) ∧
    ∃ k' : Nat, k' ≤ 34 ∧ (f_X6_format bits ml k n f p q).2.2.1 = nI k' ∧ (f_X7_format (nI k) w mn s p q).2.2.1 = nI k' ∧ ((f_X6_format bits ml k n f p q).2.2.2.1 = 16 ∨ (f_X6_format bits ml k n f p q).2.2.2.1 = 34) ∧ k' ≤ (f_X6_format bits ml k n f p q).2.2.2.1 ∧ FR k' (f_X6_format bits ml k n f p q).2.2.2.2 (f_X7_format (nI k) w mn s p q).2.2.2 := by
  have hrl := rl_iff p q
  unfold th_X6_format f_X6_format f_X7_format
  by_cases c : f_X7_isLocation p q = 0
  · rw [if_pos c] at hrl
    rw [hrl, if_neg (Option.some_ne_none _), if_neg (Option.some_ne_none _), if_pos c]
    exact ⟨rfl, fun z => absurd z (Option.some_ne_none _), k, hk, rfl, rfl, hn, hkn, h0⟩
  · obtain ⟨t, cc, ht, hc, rfl, rfl⟩ := loc_nat c
    rw [if_neg c] at hrl
    rw [hrl, if_pos rfl, if_pos rfl, if_neg c, ix414t, nI_clamp (n := 414 + 32 * t + cc) (by omega), locOf_nI, show 414 + 32 * t + cc = 414 + (32 * t + cc) by omega]
    have hX : SL (f_X5_wordAt bits (nI (32 * t + cc))) (w (414 + (32 * t + cc))) := by
      rw [wordAt_nI bits (by omega), (h.2.1.2.2.2.1 _ (by omega)).1]
      exact SL_sg _
    generalize f_X5_wordAt bits (nI (32 * t + cc)) = X at hX ⊢
    generalize w (414 + (32 * t + cc)) = Y at hX ⊢
    have y4 := SL_num hX
    obtain ⟨o1, o2⟩ := opN_lt X
    obtain ⟨a1, a2⟩ := adN_lt X
    obtain ⟨b1, b2⟩ := neN_lt X
    have y1 : Y &&& 15 = nI (opN X) := (SL_opcode hX).symm.trans o2
    have y2 : f_X7_operandOf Y = nI (adN X) := (SL_operand hX).symm.trans a2
    have y3 : f_X7_nextOf Y = nI (neN X) := (SL_next hX).symm.trans b2
    rw [o2, y1, y2, y3, y4]
    generalize opN X = o at *
    generalize adN X = a at *
    generalize neN X = b at *
    rw [nI_clamp (n := o) (by omega)]
    obtain ⟨s1, e1, r1⟩ := FR.hd (n := n) (f := f) (s := s) hmn o1
    rw [e1]
    obtain ⟨F1, F2, F3⟩ := form_tab o o1
    have g16 := gLn_16 o o1
    have tL := th_ends.2.2.1
    have hn1 := sbN_ok (q := 0 + gLn o) hn (by omega)
    have hn2 := sbN_ok (q := 0 + gLn o + 1) hn1.1 (by omega)
    have q1 := r1.sign (n := sbN (0 + gLn o) n) (c := 32) hn1.2.1 hn1.1 (by omega) (by decide)
    by_cases cf : f_X3_operandForm (nI o) = 1
    · rw [if_pos cf, if_neg (F1.mp cf)]
      dsimp only
      obtain ⟨s2, e2, r2⟩ := FR.loc (k := 0 + gLn o) (a := a) (n := sbN (0 + gLn o + 1) (sbN (0 + gLn o) n)) (f := upd (sbF (0 + gLn o + 1) (sbN (0 + gLn o) n) (va_cpy (gBy o) (sbF (0 + gLn o) n f) 0 0 (gLn o))) (0 + gLn o) 32) (s := s1) a1 hn2.1 (by omega) (by omega)
      have kl := flK_le (0 + gLn o + 1) a
      have fo1 := fl_ok (k := 0 + gLn o + 1) (a := a) hn2.1 (by omega)
      obtain ⟨s3, s4, e3, e4, r4⟩ := FR.tl (a := b) (r2 q1) fo1.1 fo1.2 (by omega) b1
      have kl2 := flK_le (flK (0 + gLn o + 1) a + gLn 20) b
      have hn3 := sbN_ok (q := flK (0 + gLn o + 1) a + gLn 20) fo1.1 (by omega)
      have fo2 := fl_ok (k := flK (0 + gLn o + 1) a + gLn 20) (a := b) hn3.1 (by omega)
      rw [e2]
      dsimp only
      rw [shows_nI (by omega)]
      dsimp only
      rw [e3]
      dsimp only
      rw [e4]
      exact ⟨rfl, fun _ => rfl, _, by omega, rfl, rfl, fo2.1, fo2.2, r4⟩
    · rw [if_neg cf, if_pos (Decidable.byContradiction fun z => cf (F1.mpr z))]
      by_cases c2 : f_X3_operandForm (nI o) = 2
      · have hnum := FR.num (k := 0 + gLn o + 1) (j := a % 32) (f := sbF (0 + gLn o + 1 + sbD (a % 32)) (sbN (0 + gLn o + 1) (sbN (0 + gLn o) n)) (upd (sbF (0 + gLn o + 1) (sbN (0 + gLn o) n) (va_cpy (gBy o) (sbF (0 + gLn o) n f) 0 0 (gLn o))) (0 + gLn o) 32)) (s := upd s1 (0 + gLn o) 32) (by omega) (by omega)
        obtain ⟨s2, e2, r2⟩ := hnum
        have d1 := sbD_le (a % 32)
        have hn3 := sbN_ok (q := 0 + gLn o + 1 + sbD (a % 32)) hn2.1 (by omega)
        have q2 := r2 (q1.grow hn2.2.1 hn2.1 (by omega))
        obtain ⟨s3, s4, e3, e4, r4⟩ := FR.tl (a := b) q2 hn3.1 hn3.2.1 (by omega) b1
        have kl2 := flK_le (0 + gLn o + 1 + sbD (a % 32) + gLn 20) b
        have hn4 := sbN_ok (q := 0 + gLn o + 1 + sbD (a % 32) + gLn 20) hn3.1 (by omega)
        have fo2 := fl_ok (k := 0 + gLn o + 1 + sbD (a % 32) + gLn 20) (a := b) hn4.1 (by omega)
        rw [if_pos c2]
        rcases F2.mp c2 with z8 | z9
        · rw [if_pos z8]
          dsimp only
          rw [shows_nI (by omega)]
          dsimp only
          rw [e2]
          dsimp only
          rw [shows_nI (by omega)]
          dsimp only
          rw [e3]
          dsimp only
          rw [e4]
          exact ⟨rfl, fun _ => rfl, _, by omega, rfl, rfl, fo2.1, fo2.2, r4⟩
        · have n8 : ¬ nI o = 8 := fun y => absurd (y.symm.trans z9) (by decide)
          rw [if_neg n8, if_pos z9]
          dsimp only
          rw [shows_nI (by omega)]
          dsimp only
          rw [e2]
          dsimp only
          rw [shows_nI (by omega)]
          dsimp only
          rw [e3]
          dsimp only
          rw [e4]
          exact ⟨rfl, fun _ => rfl, _, by omega, rfl, rfl, fo2.1, fo2.2, r4⟩
      · rw [if_neg c2, if_neg (fun z => c2 (F2.mpr (Or.inl z))), if_neg (fun z => c2 (F2.mpr (Or.inr z)))]
        obtain ⟨s3, s4, e3, e4, r4⟩ := FR.tl (a := b) r1 hn1.1 hn1.2.1 (by omega) b1
        have kl2 := flK_le (0 + gLn o + gLn 20) b
        have hn4 := sbN_ok (q := 0 + gLn o + gLn 20) hn1.1 (by omega)
        have fo2 := fl_ok (k := 0 + gLn o + gLn 20) (a := b) hn4.1 (by omega)
        dsimp only
        rw [shows_nI (by omega)]
        dsimp only
        rw [e3]
        dsimp only
        rw [e4]
        exact ⟨rfl, fun _ => rfl, _, by omega, rfl, rfl, fo2.1, fo2.2, r4⟩
end CRf
