/-! PURE J: the calls of the law one by one (store and climate) -/
theorem RW.bits {T : Nat} {dr pt ot fp on : Int32} {bits bits2 slips temps w v : Nat → Int32} (h : RW T dr bits slips pt ot fp on temps w) (hb : RB bits2 v) (hv : ∀ j, j < 414 → v j = w j) : RW T dr bits2 slips pt ot fp on temps v := by
  obtain ⟨⟨h0, h7, h8, h9, h10, h11⟩, ht, hs, -, hRP, hon⟩ := h
  refine ⟨⟨?_, ?_, ?_, ?_, ?_, ?_⟩, fun t q => ⟨?_, (ht t q).2⟩, fun t q => ?_, hb, ⟨?_, ?_, ?_⟩, hon⟩
  · rw [hv 0 (by omega)]; exact h0
  · rw [hv 7 (by omega)]; exact h7
  · rw [hv 8 (by omega)]; exact h8
  · rw [hv 9 (by omega)]; exact h9
  · rw [hv 10 (by omega)]; exact h10
  · rw [hv 11 (by omega)]; exact h11
  · rw [hv _ (by omega)]; exact (ht t q).1
  · rw [hv _ (by omega)]; exact hs t q
  · rw [hv 8 (by omega)]; exact hRP.1
  · rw [hv 9 (by omega)]; exact hRP.2.1
  · rw [hv 11 (by omega)]; exact hRP.2.2
theorem RW.temps {T : Nat} {dr pt ot fp on : Int32} {bits slips temps temps2 w v : Nat → Int32} (h : RW T dr bits slips pt ot fp on temps w) (ht : ∀ t, t < 8 → v (14 + t) = temps2 t ∧ 0 ≤ (temps2 t).toInt ∧ (temps2 t).toInt ≤ 1000) (hv : ∀ j, (j < 14 ∨ 22 ≤ j) → v j = w j) : RW T dr bits slips pt ot fp on temps2 v := by
  obtain ⟨⟨h0, h7, h8, h9, h10, h11⟩, -, hs, hb, hRP, hon⟩ := h
  refine ⟨⟨?_, ?_, ?_, ?_, ?_, ?_⟩, ht, fun t q => ?_, hb.frame (fun k q => hv _ (by omega)), ⟨?_, ?_, ?_⟩, hon⟩
  · rw [hv 0 (by omega)]; exact h0
  · rw [hv 7 (by omega)]; exact h7
  · rw [hv 8 (by omega)]; exact h8
  · rw [hv 9 (by omega)]; exact h9
  · rw [hv 10 (by omega)]; exact h10
  · rw [hv 11 (by omega)]; exact h11
  · rw [hv _ (by omega)]; exact hs t q
  · rw [hv 8 (by omega)]; exact hRP.1
  · rw [hv 9 (by omega)]; exact hRP.2.1
  · rw [hv 11 (by omega)]; exact hRP.2.2
theorem RW.slips {T : Nat} {dr pt ot fp on : Int32} {bits slips slips2 temps w v : Nat → Int32} (h : RW T dr bits slips pt ot fp on temps w) (hs : ∀ t, t < 8 → v (22 + t) = slips2 t) (hv : ∀ j, (j < 22 ∨ 30 ≤ j) → v j = w j) : RW T dr bits slips2 pt ot fp on temps v := by
  obtain ⟨⟨h0, h7, h8, h9, h10, h11⟩, ht, -, hb, hRP, hon⟩ := h
  refine ⟨⟨?_, ?_, ?_, ?_, ?_, ?_⟩, fun t q => ⟨?_, (ht t q).2⟩, hs, hb.frame (fun k q => hv _ (by omega)), ⟨?_, ?_, ?_⟩, hon⟩
  · rw [hv 0 (by omega)]; exact h0
  · rw [hv 7 (by omega)]; exact h7
  · rw [hv 8 (by omega)]; exact h8
  · rw [hv 9 (by omega)]; exact h9
  · rw [hv 10 (by omega)]; exact h10
  · rw [hv 11 (by omega)]; exact h11
  · rw [hv _ (by omega)]; exact (ht t q).1
  · rw [hv 8 (by omega)]; exact hRP.1
  · rw [hv 9 (by omega)]; exact hRP.2.1
  · rw [hv 11 (by omega)]; exact hRP.2.2
/-- the computers of the two sides -/
def CR (T : Nat) (tm et wt sta he ac ov dr : Int32) (bits slips : Nat → Int32) (pt ot fp on : Int32) (temps : Nat → Int32) (fi li : Int32) (rin : Nat → Int32) (fo lo : Int32) (rout cnt w : Nat → Int32) : Prop :=
  tm = nI T ∧ RW T dr bits slips pt ot fp on temps w ∧ RR et wt sta he ac ov fi li rin fo lo rout cnt w
section CRs
variable {T : Nat} {tm et wt sta he ac ov dr pt ot fp on fi li fo lo : Int32} {bits slips temps rin rout cnt w ring ring2 : Nat → Int32}
theorem gword_at (h : CR T tm et wt sta he ac ov dr bits slips pt ot fp on temps fi li rin fo lo rout cnt w) {k : Nat} (hk : k < 256) : f_X7_wrap (Int32.toInt64 (w (414 + k))) = f_X5_wordAt bits (nI k) := by
  rw [wordAt_nI bits hk, (h.2.1.2.2.2.1 k hk).1, sg_x7]
theorem cs_readWord (h : CR T tm et wt sta he ac ov dr bits slips pt ot fp on temps fi li rin fo lo rout cnt w) (p q : Int32) :
    k1 (th_X6_readWord p q) = (f_X7_readWord w p q).2 ∧ (th_X6_readWord p q = none → f_X6_readWord bits p q = (f_X7_readWord w p q).1) := by
  unfold th_X6_readWord f_X6_readWord f_X7_readWord
  rw [rl_iff]
  by_cases c : f_X7_isLocation p q = 0
  · rw [if_pos c, if_pos c, if_neg (Option.some_ne_none _), if_neg (Option.some_ne_none _)]
    exact ⟨rfl, fun z => absurd z (Option.some_ne_none _)⟩
  · rw [if_neg c, if_neg c, if_pos rfl, if_pos rfl]
    obtain ⟨t, k, ht, hk, rfl, rfl⟩ := loc_nat c
    refine ⟨rfl, fun _ => ?_⟩
    dsimp only
    rw [ix414t, nI_clamp (by omega), locOf_nI, ← gword_at h (by omega)]
    have e : 414 + 32 * t + k = 414 + (32 * t + k) := by omega
    rw [e]
theorem cs_writeWord (h : CR T tm et wt sta he ac ov dr bits slips pt ot fp on temps fi li rin fo lo rout cnt w) (p q v : Int32) :
    k2 sIO (th_X6_writeWord p q v) = (f_X7_writeWord w p q v).2.1 ∧ (th_X6_writeWord p q v = none → (f_X6_writeWord bits p q v).1 = (f_X7_writeWord w p q v).1) ∧ CR T tm et wt sta he ac ov dr (f_X6_writeWord bits p q v).2 slips pt ot fp on temps fi li rin fo lo rout cnt (f_X7_writeWord w p q v).2.2 := by
  unfold th_X6_writeWord f_X6_writeWord f_X7_writeWord
  rw [rl_iff, rw_iff]
  by_cases c : f_X7_isLocation p q = 0
  · rw [if_pos c, if_pos c, if_neg (Option.some_ne_none _), if_neg (Option.some_ne_none _), k2_1]
    exact ⟨rfl, fun z => absurd z (Option.some_ne_none _), h⟩
  · rw [if_neg c, if_neg c, if_pos rfl, if_pos rfl]
    by_cases c2 : f_X7_in (Int32.toInt64 v) (-524288) 524287 = 0
    · rw [if_pos c2, if_pos c2, if_neg (Option.some_ne_none _), if_neg (Option.some_ne_none _), k2_2 sAI]
      exact ⟨rfl, fun z => absurd z (Option.some_ne_none _), h⟩
    · rw [if_neg c2, if_neg c2, if_pos rfl, if_pos rfl, k2_n]
      obtain ⟨t, k, ht, hk, rfl, rfl⟩ := loc_nat c
      dsimp only
      rw [ix414t, nI_clamp (by omega), locOf_nI, ← gword_at h (by omega)]
      have e : 414 + 32 * t + k = 414 + (32 * t + k) := by omega
      rw [e]
      exact ⟨rfl, fun _ => rfl, h.1, h.2.1.put (by omega) v, h.2.2.hi (by omega)⟩
theorem clear_it {t : Nat} (ht : t < 8) (h : RB bits w) : ∀ n, n ≤ 32 → RB (it_X5_clearBits_2 bits (nI t) n) (it_X7_clearTank_26 w (nI t) n) ∧ ∀ j, j < 414 → it_X7_clearTank_26 w (nI t) n j = w j := by
  intro n
  induction n with
  | zero => intro _; exact ⟨h, fun _ _ => rfl⟩
  | succ n ih =>
    intro hn
    obtain ⟨i1, i2⟩ := ih (by omega)
    have e : 414 + 32 * t + n = 414 + (32 * t + n) := by omega
    have z : (0 : Int32) &&& 1048575 = 0 := by decide
    have hst : it_X7_clearTank_26 w (nI t) (n + 1) = upd (it_X7_clearTank_26 w (nI t) n) (414 + (32 * t + n)) 0 := by
      show st_X7_clearTank_26 (nI t) n (it_X7_clearTank_26 w (nI t) n) = _
      unfold st_X7_clearTank_26
      rw [ix414t, nI_clamp (by omega), e]
    rw [hst]
    refine ⟨?_, fun j hj => by rw [pu (by omega)]; exact i2 j hj⟩
    show RB (st_X5_clearBits_2 (nI t) n (it_X5_clearBits_2 bits (nI t) n)) _
    unfold st_X5_clearBits_2
    rw [locOf_nI]
    have q := i1.putWord (k := 32 * t + n) (by omega) 0
    rw [z] at q
    exact q
theorem cs_clearTank (h : CR T tm et wt sta he ac ov dr bits slips pt ot fp on temps fi li rin fo lo rout cnt w) (p : Int32) :
    k1 (th_X6_clearTank p) = (f_X7_clearTank w p).2.1 ∧ (th_X6_clearTank p = none → (f_X6_clearTank bits p).1 = (f_X7_clearTank w p).1) ∧ CR T tm et wt sta he ac ov dr (f_X6_clearTank bits p).2 slips pt ot fp on temps fi li rin fo lo rout cnt (f_X7_clearTank w p).2.2 := by
  unfold th_X6_clearTank f_X6_clearTank f_X7_clearTank
  rw [rt_iff]
  by_cases c : f_X7_isTank p = 0
  · rw [if_pos c, if_pos c, if_neg (Option.some_ne_none _), if_neg (Option.some_ne_none _)]
    exact ⟨rfl, fun z => absurd z (Option.some_ne_none _), h⟩
  · rw [if_neg c, if_neg c, if_pos rfl, if_pos rfl]
    obtain ⟨t, ht, rfl⟩ := tank_nat c
    have hb : RB bits w := h.2.1.2.2.2.1
    obtain ⟨i1, i2⟩ := clear_it ht hb 32 (Nat.le_refl _)
    exact ⟨rfl, fun _ => ones_eq hb ht, h.1, h.2.1.bits i1 i2, h.2.2.frame (fun j hj => i2 j (by omega))⟩
theorem cs_bitCount (h : CR T tm et wt sta he ac ov dr bits slips pt ot fp on temps fi li rin fo lo rout cnt w) (p : Int32) :
    k1 (th_X6_bitCount p) = (f_X7_bitCount w p).2 ∧ (th_X6_bitCount p = none → f_X6_bitCount bits p = (f_X7_bitCount w p).1) := by
  unfold th_X6_bitCount f_X6_bitCount f_X7_bitCount
  rw [rt_iff]
  by_cases c : f_X7_isTank p = 0
  · rw [if_pos c, if_pos c, if_neg (Option.some_ne_none _), if_neg (Option.some_ne_none _)]
    exact ⟨rfl, fun z => absurd z (Option.some_ne_none _)⟩
  · rw [if_neg c, if_neg c, if_pos rfl, if_pos rfl]
    obtain ⟨t, ht, rfl⟩ := tank_nat c
    exact ⟨rfl, fun _ => ones_eq h.2.1.2.2.2.1 ht⟩
theorem cs_slips (h : CR T tm et wt sta he ac ov dr bits slips pt ot fp on temps fi li rin fo lo rout cnt w) (p : Int32) :
    k1 (th_X6_slips p) = (f_X7_slips w p).2 ∧ (th_X6_slips p = none → f_X6_slips slips p = (f_X7_slips w p).1) := by
  unfold th_X6_slips f_X6_slips f_X7_slips
  rw [rt_iff]
  by_cases c : f_X7_isTank p = 0
  · rw [if_pos c, if_pos c, if_neg (Option.some_ne_none _), if_neg (Option.some_ne_none _)]
    exact ⟨rfl, fun z => absurd z (Option.some_ne_none _)⟩
  · rw [if_neg c, if_neg c, if_pos rfl, if_pos rfl]
    obtain ⟨t, ht, rfl⟩ := tank_nat c
    refine ⟨rfl, fun _ => ?_⟩
    dsimp only
    rw [ix22 ht, slip_nI slips ht, h.2.1.2.2.1 t ht]
/-! exchange of two tanks -/
theorem ex_cells {a b : Nat} {f g : Nat → Int32} {c : Nat} (ha : a < 256) (hb : b < 256) (hfg : ∀ k, k < 256 → g (c + k) = f k) : ∀ k, k < 256 → upd (upd g (c + a) (g (c + b))) (c + b) (g (c + a)) (c + k) = upd (upd f a (f b)) b (f a) k := by
  intro k hk
  by_cases e1 : k = b
  · subst e1; rw [pus, pus, hfg a ha]
  · rw [pu (by omega), pu e1]
    by_cases e2 : k = a
    · subst e2; rw [pus, pus, hfg b hb]
    · rw [pu (by omega), pu e2, hfg k hk]
theorem swap_it {t u : Nat} (ht : t < 8) (hu : u < 8) (h : RB bits w) : ∀ n, n ≤ 32 → RB (it_X5_exchange_2 bits (nI t) (nI u) n) (it_X7_swapTanks_27 w (nI t) (nI u) n) ∧ ∀ j, j < 414 → it_X7_swapTanks_27 w (nI t) (nI u) n j = w j := by
  intro n
  induction n with
  | zero => intro _; exact ⟨h, fun _ _ => rfl⟩
  | succ n ih =>
    intro hn
    obtain ⟨i1, i2⟩ := ih (by omega)
    have ea : 414 + 32 * t + n = 414 + (32 * t + n) := by omega
    have eb : 414 + 32 * u + n = 414 + (32 * u + n) := by omega
    have hst : it_X7_swapTanks_27 w (nI t) (nI u) (n + 1) = upd (upd (it_X7_swapTanks_27 w (nI t) (nI u) n) (414 + (32 * t + n)) (it_X7_swapTanks_27 w (nI t) (nI u) n (414 + (32 * u + n)))) (414 + (32 * u + n)) (it_X7_swapTanks_27 w (nI t) (nI u) n (414 + (32 * t + n))) := by
      show st_X7_swapTanks_27 (nI t) (nI u) n (it_X7_swapTanks_27 w (nI t) (nI u) n) = _
      unfold st_X7_swapTanks_27 f_X7_exchange
      rw [ix414t, ix414t, nI_clamp (by omega), nI_clamp (by omega), ea, eb]
    have ra := (i1 (32 * t + n) (by omega)).2
    have rb := (i1 (32 * u + n) (by omega)).2
    have hsx : it_X5_exchange_2 bits (nI t) (nI u) (n + 1) = upd (upd (it_X5_exchange_2 bits (nI t) (nI u) n) (32 * t + n) (it_X5_exchange_2 bits (nI t) (nI u) n (32 * u + n))) (32 * u + n) (it_X5_exchange_2 bits (nI t) (nI u) n (32 * t + n)) := by
      show st_X5_exchange_2 (nI t) (nI u) n (it_X5_exchange_2 bits (nI t) (nI u) n) = _
      unfold st_X5_exchange_2
      rw [locOf_nI, locOf_nI, wordAt_nI _ (by omega), wordAt_nI _ (by omega), putWord_nI _ (by omega), putWord_nI _ (by omega), mask_sg, mask_sg, mask_self ra, mask_self rb]
    rw [hst, hsx]
    refine ⟨fun k hk => ⟨ex_cells (by omega) (by omega) (fun k hk => (i1 k hk).1) k hk, ?_⟩, fun j hj => by rw [pu (by omega), pu (by omega)]; exact i2 j hj⟩
    by_cases e1 : k = 32 * u + n
    · subst e1; rw [pus]; exact ra
    · rw [pu e1]
      by_cases e2 : k = 32 * t + n
      · subst e2; rw [pus]; exact rb
      · rw [pu e2]; exact (i1 k hk).2
theorem cs_swapTanks (h : CR T tm et wt sta he ac ov dr bits slips pt ot fp on temps fi li rin fo lo rout cnt w) (p q : Int32) :
    k1 (th_X6_swapTanks p q) = (f_X7_swapTanks w p q).1 ∧ CR T tm et wt sta he ac ov dr (f_X6_swapTanks bits slips temps p q).1 (f_X6_swapTanks bits slips temps p q).2.1 pt ot fp on (f_X6_swapTanks bits slips temps p q).2.2 fi li rin fo lo rout cnt (f_X7_swapTanks w p q).2 := by
  unfold th_X6_swapTanks f_X6_swapTanks f_X7_swapTanks
  rw [rt_iff, rt_iff]
  by_cases c : f_X7_isTank p = 0
  · rw [if_pos c, if_pos c, if_neg (Option.some_ne_none _), if_neg (Option.some_ne_none _)]
    exact ⟨rfl, h⟩
  · rw [if_neg c, if_neg c, if_pos rfl, if_pos rfl]
    by_cases c2 : f_X7_isTank q = 0
    · rw [if_pos c2, if_pos c2, if_neg (Option.some_ne_none _), if_neg (Option.some_ne_none _)]
      exact ⟨rfl, h⟩
    · rw [if_neg c2, if_neg c2, if_pos rfl, if_pos rfl]
      obtain ⟨t, ht, rfl⟩ := tank_nat c
      obtain ⟨u, hu, rfl⟩ := tank_nat c2
      refine ⟨rfl, h.1, ?_⟩
      obtain ⟨hb, hlo⟩ := swap_it ht hu h.2.1.2.2.2.1 32 (Nat.le_refl _)
      unfold f_X5_exchange f_X1_exchange f_X1_putTemperature f_X7_exchange
      dsimp only
      rw [ix14 ht, ix14 hu, ix22 ht, ix22 hu, ix7 ht, ix7 hu, temp_nI temps ht, temp_nI temps hu, slip_nI slips ht, slip_nI slips hu]
      generalize it_X7_swapTanks_27 w (nI t) (nI u) 32 = v at *
      have W1 := h.2.1.bits hb hlo
      have W2 : RW T dr (it_X5_exchange_2 bits (nI t) (nI u) 32) slips pt ot fp on (upd (upd temps t (temps u)) u (temps t)) (upd (upd v (14 + t) (v (14 + u))) (14 + u) (v (14 + t))) := by
        refine W1.temps (fun k hk => ?_) (fun j hj => by rw [pu (by omega), pu (by omega)])
        have r := W1.2.1
        by_cases e1 : k = u
        · subst e1; rw [pus, pus]; exact r t ht
        · rw [pu (by omega), pu e1]
          by_cases e2 : k = t
          · subst e2; rw [pus, pus]; exact r u hu
          · rw [pu (by omega), pu e2]; exact r k hk
      refine ⟨W2.slips (fun k hk => ?_) (fun j hj => by rw [pu (by omega), pu (by omega)]), h.2.2.frame (fun j hj => by rw [pu (by omega), pu (by omega), pu (by omega), pu (by omega)]; exact hlo j (by omega))⟩
      have r := W2.2.2.1
      by_cases e1 : k = u
      · subst e1; rw [pus, pus]; exact r t ht
      · rw [pu (by omega), pu e1]
        by_cases e2 : k = t
        · subst e2; rw [pus, pus]; exact r u hu
        · rw [pu (by omega), pu e2]; exact r k hk
theorem cs_setTemperature (h : CR T tm et wt sta he ac ov dr bits slips pt ot fp on temps fi li rin fo lo rout cnt w) (p q : Int32) :
    k2 sIO (th_X6_setTemperature p q) = (f_X7_setTemperature w p q).2.1 ∧ (th_X6_setTemperature p q = none → (f_X6_setTemperature temps p q).1 = (f_X7_setTemperature w p q).1) ∧ CR T tm et wt sta he ac ov dr bits slips pt ot fp on (f_X6_setTemperature temps p q).2 fi li rin fo lo rout cnt (f_X7_setTemperature w p q).2.2 := by
  unfold th_X6_setTemperature f_X6_setTemperature f_X7_setTemperature
  rw [rt_iff, rtp_iff]
  by_cases c : f_X7_isTank p = 0
  · rw [if_pos c, if_pos c, if_neg (Option.some_ne_none _), if_neg (Option.some_ne_none _), k2_1]
    exact ⟨rfl, fun z => absurd z (Option.some_ne_none _), h⟩
  · rw [if_neg c, if_neg c, if_pos rfl, if_pos rfl]
    by_cases c2 : f_X7_isWarmth q = 0
    · rw [if_pos c2, if_pos c2, if_neg (Option.some_ne_none _), if_neg (Option.some_ne_none _), k2_2 sAI]
      exact ⟨rfl, fun z => absurd z (Option.some_ne_none _), h⟩
    · rw [if_neg c2, if_neg c2, if_pos rfl, if_pos rfl, k2_n]
      obtain ⟨t, ht, rfl⟩ := tank_nat c
      have hq := in_ofI (a := 0) (b := 1000) c2 (by decide) (by decide)
      unfold f_X7_puts f_X1_putTemperature
      dsimp only
      rw [ix14 ht, ix7 ht, temp_nI temps ht]
      have r := h.2.1.2.1
      refine ⟨rfl, fun _ => (r t ht).1.symm, h.1, h.2.1.temps (fun k hk => ?_) (fun j hj => pu (by omega)), h.2.2.frame (fun j hj => pu (by omega))⟩
      by_cases e : k = t
      · subst e; rw [pus, pus]; exact ⟨rfl, hq⟩
      · rw [pu (by omega), pu e]; exact r k hk
theorem cs_temperature (h : CR T tm et wt sta he ac ov dr bits slips pt ot fp on temps fi li rin fo lo rout cnt w) (p : Int32) :
    k1 (th_X6_temperature p) = (f_X7_temperature w p).2 ∧ (th_X6_temperature p = none → f_X6_temperature temps p = (f_X7_temperature w p).1) := by
  unfold th_X6_temperature f_X6_temperature f_X7_temperature
  rw [rt_iff]
  by_cases c : f_X7_isTank p = 0
  · rw [if_pos c, if_pos c, if_neg (Option.some_ne_none _), if_neg (Option.some_ne_none _)]
    exact ⟨rfl, fun z => absurd z (Option.some_ne_none _)⟩
  · rw [if_neg c, if_neg c, if_pos rfl, if_pos rfl]
    obtain ⟨t, ht, rfl⟩ := tank_nat c
    refine ⟨rfl, fun _ => ?_⟩
    dsimp only
    rw [ix14 ht, temp_nI temps ht, (h.2.1.2.1 t ht).1]
theorem cs_setOven (h : CR T tm et wt sta he ac ov dr bits slips pt ot fp on temps fi li rin fo lo rout cnt w) (p : Int32) :
    k1 (th_X6_setOven p) = (f_X7_setOven w p).2.1 ∧ (th_X6_setOven p = none → (f_X6_setOven ot p).1 = (f_X7_setOven w p).1) ∧ CR T tm et wt sta he ac ov dr bits slips pt (f_X6_setOven ot p).2 fp on temps fi li rin fo lo rout cnt (f_X7_setOven w p).2.2 := by
  unfold th_X6_setOven f_X6_setOven f_X7_setOven
  rw [rtp_iff]
  by_cases c : f_X7_isWarmth p = 0
  · rw [if_pos c, if_pos c, if_neg (Option.some_ne_none _), if_neg (Option.some_ne_none _)]
    exact ⟨rfl, fun z => absurd z (Option.some_ne_none _), h⟩
  · rw [if_neg c, if_neg c, if_pos rfl, if_pos rfl]
    have hq := in_ofI (a := 0) (b := 1000) c (by decide) (by decide)
    unfold f_X7_puts
    dsimp only
    rw [cl8]
    obtain ⟨g0, ⟨⟨h0, h7, h8, h9, h10, h11⟩, ht, hs, hb, hRP, hon⟩, hR⟩ := h
    exact ⟨rfl, fun _ => h8.symm, g0, ⟨⟨h0, h7, pus, h9, h10, h11⟩, fun t q => ⟨by rw [pu (by omega)]; exact (ht t q).1, (ht t q).2⟩, fun t q => by rw [pu (by omega)]; exact hs t q, hb.low (by decide), ⟨by rw [pus]; exact hq, hRP.2⟩, hon⟩, hR.frame (fun j hj => pu (by omega))⟩
theorem cs_setPilotTemperature (h : CR T tm et wt sta he ac ov dr bits slips pt ot fp on temps fi li rin fo lo rout cnt w) (p : Int32) :
    k1 (th_X6_setPilotTemperature p) = (f_X7_setPilotTemperature w p).2.1 ∧ (th_X6_setPilotTemperature p = none → (f_X6_setPilotTemperature pt p).1 = (f_X7_setPilotTemperature w p).1) ∧ CR T tm et wt sta he ac ov dr bits slips (f_X6_setPilotTemperature pt p).2 ot fp on temps fi li rin fo lo rout cnt (f_X7_setPilotTemperature w p).2.2 := by
  unfold th_X6_setPilotTemperature f_X6_setPilotTemperature f_X7_setPilotTemperature
  rw [rtp_iff]
  by_cases c : f_X7_isWarmth p = 0
  · rw [if_pos c, if_pos c, if_neg (Option.some_ne_none _), if_neg (Option.some_ne_none _)]
    exact ⟨rfl, fun z => absurd z (Option.some_ne_none _), h⟩
  · rw [if_neg c, if_neg c, if_pos rfl, if_pos rfl]
    have hq := in_ofI (a := 0) (b := 1000) c (by decide) (by decide)
    unfold f_X7_puts
    dsimp only
    rw [cl9]
    obtain ⟨g0, ⟨⟨h0, h7, h8, h9, h10, h11⟩, ht, hs, hb, hRP, hon⟩, hR⟩ := h
    exact ⟨rfl, fun _ => h9.symm, g0, ⟨⟨h0, h7, h8, pus, h10, h11⟩, fun t q => ⟨by rw [pu (by omega)]; exact (ht t q).1, (ht t q).2⟩, fun t q => by rw [pu (by omega)]; exact hs t q, hb.low (by decide), ⟨hRP.1, by rw [pus]; exact hq, hRP.2.2⟩, hon⟩, hR.frame (fun j hj => pu (by omega))⟩
theorem cs_setFixedPeriod (h : CR T tm et wt sta he ac ov dr bits slips pt ot fp on temps fi li rin fo lo rout cnt w) (p : Int32) :
    k1 (th_X6_setFixedPeriod p) = (f_X7_setFixedPeriod w p).2.1 ∧ (th_X6_setFixedPeriod p = none → (f_X6_setFixedPeriod fp p).1 = (f_X7_setFixedPeriod w p).1) ∧ CR T tm et wt sta he ac ov dr bits slips pt ot (f_X6_setFixedPeriod fp p).2 on temps fi li rin fo lo rout cnt (f_X7_setFixedPeriod w p).2.2 := by
  have ef : f_X6_setFixedPeriod fp p = if f_X7_in (Int32.toInt64 p) 900000 1100000 = 0 then (0, fp) else (fp, p) := by
    have q := sfp_iff p
    unfold th_X6_setFixedPeriod at q
    unfold f_X6_setFixedPeriod
    by_cases c1 : p < 900000
    · rw [if_pos c1] at q ⊢
      by_cases c : f_X7_in (Int32.toInt64 p) 900000 1100000 = 0
      · rw [if_pos c]
      · rw [if_neg c] at q; exact absurd q (Option.some_ne_none _)
    · rw [if_neg c1] at q ⊢
      by_cases c2 : p ≤ 1100000
      · rw [if_pos c2] at q ⊢
        by_cases c : f_X7_in (Int32.toInt64 p) 900000 1100000 = 0
        · rw [if_pos c] at q; exact absurd q.symm (Option.some_ne_none _)
        · rw [if_neg c]
      · rw [if_neg c2] at q ⊢
        by_cases c : f_X7_in (Int32.toInt64 p) 900000 1100000 = 0
        · rw [if_pos c]
        · rw [if_neg c] at q; exact absurd q (Option.some_ne_none _)
  rw [sfp_iff, ef]
  unfold f_X7_setFixedPeriod
  by_cases c : f_X7_in (Int32.toInt64 p) 900000 1100000 = 0
  · rw [if_pos c, if_pos c, if_pos c]
    exact ⟨rfl, fun z => absurd z (Option.some_ne_none _), h⟩
  · rw [if_neg c, if_neg c, if_neg c]
    have hq := in_ofI (a := 900000) (b := 1100000) c (by decide) (by decide)
    unfold f_X7_puts
    dsimp only
    rw [cl11]
    obtain ⟨g0, ⟨⟨h0, h7, h8, h9, h10, h11⟩, ht, hs, hb, hRP, hon⟩, hR⟩ := h
    exact ⟨rfl, fun _ => h11.symm, g0, ⟨⟨h0, h7, h8, h9, h10, pus⟩, fun t q => ⟨by rw [pu (by omega)]; exact (ht t q).1, (ht t q).2⟩, fun t q => by rw [pu (by omega)]; exact hs t q, hb.low (by decide), ⟨hRP.1, hRP.2.1, by rw [pus]; exact hq⟩, hon⟩, hR.frame (fun j hj => pu (by omega))⟩
theorem cs_setPilot (h : CR T tm et wt sta he ac ov dr bits slips pt ot fp on temps fi li rin fo lo rout cnt w) {p : Int32} (hp : g01 p) :
    (f_X6_setPilot on p).1 = (f_X7_setPilot w p).1 ∧ CR T tm et wt sta he ac ov dr bits slips pt ot fp (f_X6_setPilot on p).2 temps fi li rin fo lo rout cnt (f_X7_setPilot w p).2.2 := by
  obtain ⟨g0, ⟨⟨h0, h7, h8, h9, h10, h11⟩, ht, hs, hb, hRP, hon⟩, hR⟩ := h
  have key : f_X7_setPilot w p = (on, 0, upd w 10 p) := by
    unfold f_X7_setPilot f_X7_puts
    dsimp only
    rw [cl10, h10]
    rcases hp with rfl | rfl <;> rcases hon with rfl | rfl <;> rfl
  rw [key]
  dsimp only
  exact ⟨rfl, g0, ⟨⟨h0, h7, h8, h9, pus, h11⟩, fun t q => ⟨by rw [pu (by omega)]; exact (ht t q).1, (ht t q).2⟩, fun t q => by rw [pu (by omega)]; exact hs t q, hb.low (by decide), hRP, hp⟩, hR.frame (fun j hj => pu (by omega))⟩
theorem CR.per (h : CR T tm et wt sta he ac ov dr bits slips pt ot fp on temps fi li rin fo lo rout cnt w) : f_X7_periodNow w = f_X1_clockPeriod pt fp on := by
  obtain ⟨g0, ⟨⟨h0, h7, h8, h9, h10, h11⟩, ht, hs, hb, hRP, hon⟩, hR⟩ := h
  exact per_eq h9 h10 h11 hon
theorem cs_period (h : CR T tm et wt sta he ac ov dr bits slips pt ot fp on temps fi li rin fo lo rout cnt w) : f_X6_period pt fp on = (f_X7_period w).1 := h.per.symm
theorem cs_mismatch (h : CR T tm et wt sta he ac ov dr bits slips pt ot fp on temps fi li rin fo lo rout cnt w) (p : Int32) :
    k1 (th_X6_mismatch p) = (f_X7_mismatch w p).2 ∧ (th_X6_mismatch p = none → f_X6_mismatch pt fp on temps p = (f_X7_mismatch w p).1) := by
  unfold th_X6_mismatch f_X6_mismatch f_X7_mismatch
  rw [rt_iff]
  by_cases c : f_X7_isTank p = 0
  · rw [if_pos c, if_pos c, if_neg (Option.some_ne_none _), if_neg (Option.some_ne_none _)]
    exact ⟨rfl, fun z => absurd z (Option.some_ne_none _)⟩
  · rw [if_neg c, if_neg c, if_pos rfl, if_pos rfl]
    obtain ⟨t, ht, rfl⟩ := tank_nat c
    refine ⟨rfl, fun _ => ?_⟩
    dsimp only
    rw [ix14 ht, temp_nI temps ht, (h.2.1.2.1 t ht).1, mis_eq h.per]
theorem cs_least (h : CR T tm et wt sta he ac ov dr bits slips pt ot fp on temps fi li rin fo lo rout cnt w) : f_X6_leastSafeTemperature pt fp on = (f_X7_leastSafeTemperature w).1 := by
  have key : ∀ n k, wl_X6_leastSafeTemperature pt fp on n k = (wl_X7_leastSafeTemperature w n k).1 := by
    intro n
    induction n with
    | zero => intro k; rfl
    | succ n ih =>
      intro k
      unfold wl_X6_leastSafeTemperature wl_X7_leastSafeTemperature
      rw [safe_eq h.per]
      by_cases c : f_X6_isSafe (nI k) (f_X1_clockPeriod pt fp on) = 0
      · rw [if_pos c, if_pos c]; exact ih (k + 1)
      · rw [if_neg c, if_neg c]
  exact key 1001 0
theorem cs_greatest (h : CR T tm et wt sta he ac ov dr bits slips pt ot fp on temps fi li rin fo lo rout cnt w) : f_X6_greatestSafeTemperature pt fp on = (f_X7_greatestSafeTemperature w).1 := by
  have key : ∀ n k, wl_X6_greatestSafeTemperature pt fp on n k = (wl_X7_greatestSafeTemperature w n k).1 := by
    intro n
    induction n with
    | zero => intro k; rfl
    | succ n ih =>
      intro k
      unfold wl_X6_greatestSafeTemperature wl_X7_greatestSafeTemperature
      rw [safe_eq h.per]
      by_cases c : f_X6_isSafe (1000 - nI k) (f_X1_clockPeriod pt fp on) = 0
      · rw [if_pos c, if_pos c]; exact ih (k + 1)
      · rw [if_neg c, if_neg c]
  exact key 1001 0
end CRs
