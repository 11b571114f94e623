/-! PURE L: timing analysis; snapshots -/
theorem cyc_of (x : Int32) : ∃ K, K < 32 ∧ ((x >>> ((7 : Int32) &&& 31)) &&& 31) = nI K := of_rng (N := 32) (by decide) (by have := gI_and31 (x >>> ((7 : Int32) &&& 31)); omega)
theorem tank_of7 (x : Int32) : ∃ K, K < 8 ∧ ((x >>> ((4 : Int32) &&& 31)) &&& 7) = nI K := of_rng (N := 8) (by decide) (by have := gI_and7 (x >>> ((4 : Int32) &&& 31)); omega)
/-- the operand's cycle -/
theorem opnd_of (x : Int32) : ∃ P K, P < 256 ∧ K < 32 ∧ P % 32 = K ∧ f_X7_operandOf x = nI P ∧ ((x >>> ((7 : Int32) &&& 31)) &&& 31) = nI K := by
  obtain ⟨K, hK, eK⟩ := cyc_of x
  obtain ⟨t, ht, et⟩ := tank_of7 x
  refine ⟨32 * t + K, K, by omega, hK, by omega, ?_, eK⟩
  unfold f_X7_operandOf
  rw [et, eK, loc_nI]
theorem until_nI {t K : Nat} (ht : t < 100000000) (hK : K < 32) : f_X7_until (nI t) (nI K) = nI (t + (K + 32 * t - t) % 32) := by
  unfold f_X7_until
  rw [wF_nI hK (by omega), nI_add]
theorem wf_val (o : Nat) (ho : o < 16) : f_X3_waitsForOperand (nI o) = if (o = 1 ∨ o = 2 ∨ o = 3 ∨ o = 4 ∨ o = 5 ∨ o = 6 ∨ o = 7 ∨ o = 15) then 1 else 0 := by
  rcases o with _ | _ | _ | _ | _ | _ | _ | _ | _ | _ | _ | _ | _ | _ | _ | _ | o
  all_goals first | decide | omega
/-- how long an instruction takes, on both sides -/
theorem dur_done (x : Int32) {t : Nat} (ht : t < 90000000) : ∃ d, d ≤ 98 ∧ f_X3_duration (sg x) (nI (t % 32)) = nI d ∧ f_X7_doneAt x (nI t) = nI (t + d) := by
  obtain ⟨P, K, hP, hK, hPK, eP, eK⟩ := opnd_of x
  have hr := gI_and15 x
  obtain ⟨o, ho, eo⟩ := of_rng (x := x &&& 15) (N := 16) (by decide) (by omega)
  have hop : f_X3_opcode (sg x) = nI o := (SL_opcode (SL_sg x)).trans eo
  have hp : f_X3_operand (sg x) = nI P := (SL_operand (SL_sg x)).trans eP
  have ew : f_X6_waitingUntil (nI P) (nI (t % 32) + 1) = nI ((K + 32 * (t + 1) - (t + 1)) % 32) := by
    rw [nI_1, wU_nI (by omega) (by omega)]
    congr 1
    omega
  have hcy : f_X6_cycleOf (nI P) = nI K := by rw [cyc_nI (by omega), hPK]
  have hu := until_nI (t := t + 1) (K := K) (by omega) hK
  have hwl : (K + 32 * (t + 1) - (t + 1)) % 32 < 32 := Nat.mod_lt _ (by decide)
  generalize (K + 32 * (t + 1) - (t + 1)) % 32 = q at *
  have l1 : (1 : Int32) = nI 1 := rfl
  have l0 : (0 : Int32) = nI 0 := rfl
  have l21 : (21 : Int32) = nI 21 := rfl
  have l33 : (33 : Int32) = nI 33 := rfl
  have hA : f_X3_waitsForOperand (nI o) = 0 → f_X3_duration (sg x) (nI (t % 32)) = (1 + 0) + f_X3_ownTime (sg x) := fun z => by
    unfold f_X3_duration
    rw [hop]
    exact if_pos z
  have hB : ¬ f_X3_waitsForOperand (nI o) = 0 → f_X3_duration (sg x) (nI (t % 32)) = (1 + nI q) + f_X3_ownTime (sg x) := fun z => by
    unfold f_X3_duration
    rw [hop, if_neg z, hp, ew]
  have t1 : nI t + 1 = nI (t + 1) := nI_1 t
  unfold f_X7_doneAt
  rw [eo, eK, t1]
  rcases o with _ | _ | _ | _ | _ | _ | _ | _ | _ | _ | _ | _ | _ | _ | _ | _ | o
  · exact ⟨1, by omega, by rw [hA wf_0, ow_0 hop]; rfl, if_pos rfl⟩
  · refine ⟨1 + q + 1, by omega, by rw [hB (by decide), ow_1 hop, l1, nI_add, nI_add], ?_⟩
    rw [hu]
    refine (if_neg (by decide)).trans ((if_neg (by decide)).trans ((if_neg (by decide)).trans ((if_neg (by decide)).trans ((if_neg (by decide)).trans ((if_neg (by decide)).trans ?_)))))
    rw [l1, nI_add]; congr 1; omega
  · refine ⟨1 + q + 1, by omega, by rw [hB (by decide), ow_2 hop, l1, nI_add, nI_add], ?_⟩
    rw [hu]
    refine (if_neg (by decide)).trans ((if_neg (by decide)).trans ((if_neg (by decide)).trans ((if_neg (by decide)).trans ((if_neg (by decide)).trans ((if_neg (by decide)).trans ?_)))))
    rw [l1, nI_add]; congr 1; omega
  · refine ⟨1 + q + 1, by omega, by rw [hB (by decide), ow_3 hop, l1, nI_add, nI_add], ?_⟩
    rw [hu]
    refine (if_neg (by decide)).trans ((if_neg (by decide)).trans ((if_neg (by decide)).trans ((if_neg (by decide)).trans ((if_neg (by decide)).trans ((if_neg (by decide)).trans ?_)))))
    rw [l1, nI_add]; congr 1; omega
  · refine ⟨1 + q + 1, by omega, by rw [hB (by decide), ow_4 hop, l1, nI_add, nI_add], ?_⟩
    rw [hu]
    refine (if_neg (by decide)).trans ((if_neg (by decide)).trans ((if_neg (by decide)).trans ((if_neg (by decide)).trans ((if_neg (by decide)).trans ((if_neg (by decide)).trans ?_)))))
    rw [l1, nI_add]; congr 1; omega
  · refine ⟨1 + q + 1, by omega, by rw [hB (by decide), ow_5 hop, l1, nI_add, nI_add], ?_⟩
    rw [hu]
    refine (if_neg (by decide)).trans ((if_neg (by decide)).trans ((if_neg (by decide)).trans ((if_neg (by decide)).trans ((if_neg (by decide)).trans ((if_neg (by decide)).trans ?_)))))
    rw [l1, nI_add]; congr 1; omega
  · refine ⟨1 + q + 1, by omega, by rw [hB (by decide), ow_6 hop, l1, nI_add, nI_add], ?_⟩
    rw [hu]
    refine (if_neg (by decide)).trans ((if_neg (by decide)).trans ((if_neg (by decide)).trans ((if_neg (by decide)).trans ((if_neg (by decide)).trans ((if_neg (by decide)).trans ?_)))))
    rw [l1, nI_add]; congr 1; omega
  · refine ⟨1 + q + 21, by omega, by rw [hB (by decide), ow_7 hop, l1, l21, nI_add, nI_add], ?_⟩
    rw [hu]
    refine (if_neg (by decide)).trans ((if_neg (by decide)).trans ((if_neg (by decide)).trans ((if_neg (by decide)).trans ((if_neg (by decide)).trans ((if_pos (by decide)).trans ?_)))))
    rw [l21, nI_add]; congr 1; omega
  · refine ⟨1 + (1 + K), by omega, by rw [hA (by decide), ow_8 hop, hp, hcy, l1, l0, nI_add, nI_add, nI_add], ?_⟩
    refine (if_neg (by decide)).trans ((if_pos (by decide)).trans ?_)
    rw [nI_1, nI_add]; congr 1; omega
  · refine ⟨1 + (1 + K), by omega, by rw [hA (by decide), ow_9 hop, hp, hcy, l1, l0, nI_add, nI_add, nI_add], ?_⟩
    refine (if_neg (by decide)).trans ((if_neg (by decide)).trans ((if_pos (by decide)).trans ?_))
    rw [nI_1, nI_add]; congr 1; omega
  · refine ⟨2, by omega, by rw [hA (by decide), ow_10 hop]; rfl, ?_⟩
    exact (if_neg (by decide)).trans ((if_neg (by decide)).trans ((if_neg (by decide)).trans ((if_neg (by decide)).trans ((if_pos (by decide)).trans (nI_1 (t + 1))))))
  · refine ⟨2, by omega, by rw [hA (by decide), ow_11 hop]; rfl, ?_⟩
    exact (if_neg (by decide)).trans ((if_neg (by decide)).trans ((if_neg (by decide)).trans ((if_neg (by decide)).trans ((if_pos (by decide)).trans (nI_1 (t + 1))))))
  · refine ⟨2, by omega, by rw [hA (by decide), ow_12 hop]; rfl, ?_⟩
    exact (if_neg (by decide)).trans ((if_neg (by decide)).trans ((if_neg (by decide)).trans ((if_neg (by decide)).trans ((if_pos (by decide)).trans (nI_1 (t + 1))))))
  · refine ⟨2, by omega, by rw [hA (by decide), ow_13 hop]; rfl, ?_⟩
    exact (if_neg (by decide)).trans ((if_neg (by decide)).trans ((if_neg (by decide)).trans ((if_neg (by decide)).trans ((if_pos (by decide)).trans (nI_1 (t + 1))))))
  · refine ⟨2, by omega, by rw [hA (by decide), ow_14 hop]; rfl, ?_⟩
    exact (if_neg (by decide)).trans ((if_neg (by decide)).trans ((if_neg (by decide)).trans ((if_neg (by decide)).trans ((if_pos (by decide)).trans (nI_1 (t + 1))))))
  · refine ⟨1 + q + 33, by omega, by rw [hB (by decide), ow_15 hop, l1, l33, nI_add, nI_add], ?_⟩
    rw [hu]
    refine (if_neg (by decide)).trans ((if_neg (by decide)).trans ((if_neg (by decide)).trans ((if_pos (by decide)).trans ?_)))
    rw [nI_lit32, nI_add, nI_1]; congr 1; omega
  · omega
theorem ideal_eq {bits w : Nat → Int32} (h : RB bits w) {k : Nat} (hk : k < 256) : ∃ i, i < 32 ∧ f_X6_cycleAfter bits (nI k) = nI i ∧ f_X7_idealOf w (nI k) = nI i := by
  obtain ⟨d, hd, e1, e2⟩ := dur_done (bits k) (t := k % 32) (by omega)
  rw [Nat.mod_mod] at e1
  refine ⟨(k % 32 + d) % 32, Nat.mod_lt _ (by decide), ?_, ?_⟩
  · unfold f_X6_cycleAfter
    rw [wordAt_nI bits hk, cyc_nI (k := k) (by omega), e1, nI_add, cyc_nI (by omega)]
  · unfold f_X7_idealOf
    rw [ix414 hk, (h k hk).1, mod32_nI (k := k) (by omega), e2, mod32_nI (by omega)]
theorem free_it {bits w : Nat → Int32} (h : RB bits w) {k t : Nat} (hk : k < 256) (ht : t < 8) : ∀ n j, j + n ≤ 32 → wl_X6_freeCycleAfter bits (nI k) (nI t) n j = wl_X7_bestFree w (nI k) (nI t) n j ∧ (wl_X6_freeCycleAfter bits (nI k) (nI t) n j = -1 ∨ ∃ c, c < 32 ∧ wl_X6_freeCycleAfter bits (nI k) (nI t) n j = nI c ∧ bits (32 * t + c) = 0 ∧ ¬ 32 * t + c = k) := by
  obtain ⟨i, hi, e1, e2⟩ := ideal_eq h hk
  intro n
  induction n with
  | zero => intro j _; exact ⟨rfl, Or.inl rfl⟩
  | succ n ih =>
    intro j hj
    have hc : (i + j) % 32 < 32 := Nat.mod_lt _ (by decide)
    have hm : (nI i + nI j) % 32 = nI ((i + j) % 32) := by rw [nI_add, mod32_nI (by omega)]
    have hy : f_X6_cycleOf (nI i + nI j) = nI ((i + j) % 32) := by rw [nI_add, cyc_nI (by omega)]
    unfold wl_X6_freeCycleAfter wl_X7_bestFree
    rw [e1, e2, hm, hy, locOf_nI, loc_nI]
    generalize (i + j) % 32 = c at *
    by_cases q : nI (32 * t + c) = nI k
    · rw [if_pos q, if_pos q]
      exact ih (j + 1) (by omega)
    · rw [if_neg q, if_neg q, wordAt_nI bits (by omega), ix414 (by omega), (h (32 * t + c) (by omega)).1]
      have hz := sg_zero (h (32 * t + c) (by omega)).2
      by_cases z : bits (32 * t + c) = 0
      · have hcm : (32 * t + c) % 32 = c := by omega
        rw [if_pos (hz.mpr z), if_pos z, cyc_nI (by omega), mod32_nI (by omega), hcm]
        exact ⟨rfl, Or.inr ⟨c, hc, rfl, z, fun q2 => q (by rw [q2])⟩⟩
      · rw [if_neg (fun y => z (hz.mp y)), if_neg z]
        exact ih (j + 1) (by omega)
section CRl
variable {T : Nat} {tm et wt sta he ac ov dr pt ot fp on fi li fo lo : Int32} {bits slips temps rin rout cnt w ring ring2 : Nat → Int32}
theorem cs_idealNextCycle (h : CR T tm et wt sta he ac ov dr bits slips pt ot fp on temps fi li rin fo lo rout cnt w) (p q : Int32) :
    k1 (th_X6_idealNextCycle p q) = (f_X7_idealNextCycle w p q).2 ∧ (th_X6_idealNextCycle p q = none → f_X6_idealNextCycle bits p q = (f_X7_idealNextCycle w p q).1) := by
  unfold th_X6_idealNextCycle f_X6_idealNextCycle f_X7_idealNextCycle
  rw [rl_iff]
  by_cases c : f_X7_isLocation p q = 0
  · rw [if_pos c, if_pos c, if_neg (Option.some_ne_none _), if_neg (Option.some_ne_none _)]
    exact ⟨rfl, fun z => absurd z (Option.some_ne_none _)⟩
  · rw [if_neg c, if_neg c, if_pos rfl, if_pos rfl]
    obtain ⟨t, k, ht, hk, rfl, rfl⟩ := loc_nat c
    refine ⟨rfl, fun _ => ?_⟩
    dsimp only
    rw [locOf_nI, loc_nI]
    obtain ⟨i, hi, e1, e2⟩ := ideal_eq h.2.1.2.2.2.1 (k := 32 * t + k) (by omega)
    rw [e1, e2]
theorem cs_bestFreeCycle (h : CR T tm et wt sta he ac ov dr bits slips pt ot fp on temps fi li rin fo lo rout cnt w) (p q r : Int32) :
    k1 (th_X6_bestFreeCycle p q r) = (f_X7_bestFreeCycle w p q r).2 ∧ (th_X6_bestFreeCycle p q r = none → f_X6_bestFreeCycle bits p q r = (f_X7_bestFreeCycle w p q r).1) := by
  unfold th_X6_bestFreeCycle f_X6_bestFreeCycle f_X7_bestFreeCycle
  rw [rl_iff, rt_iff]
  by_cases c : f_X7_isLocation p q = 0
  · rw [if_pos c, if_pos c, if_neg (Option.some_ne_none _), if_neg (Option.some_ne_none _)]
    exact ⟨rfl, fun z => absurd z (Option.some_ne_none _)⟩
  · rw [if_neg c, if_neg c, if_pos rfl, if_pos rfl]
    by_cases c2 : f_X7_isTank r = 0
    · rw [if_pos c2, if_pos c2, if_neg (Option.some_ne_none _), if_neg (Option.some_ne_none _)]
      exact ⟨rfl, fun z => absurd z (Option.some_ne_none _)⟩
    · rw [if_neg c2, if_neg c2, if_pos rfl, if_pos rfl]
      obtain ⟨t, k, ht, hk, rfl, rfl⟩ := loc_nat c
      obtain ⟨u, hu, rfl⟩ := tank_nat c2
      refine ⟨rfl, fun _ => ?_⟩
      dsimp only
      rw [locOf_nI, loc_nI]
      exact (free_it h.2.1.2.2.2.1 (k := 32 * t + k) (by omega) hu 32 0 (by decide)).1
theorem nxt_nat (x : Int32) : ∃ N, N < 256 ∧ f_X7_nextOf x = nI N := of_rng (N := 256) (by decide) (next_rng x)
theorem wn_eq {x : Int32} {t c : Nat} (ht : t < 8) (hc : c < 32) : f_X3_withNext (sg x) (nI (32 * t + c)) &&& 1048575 = (((x &&& 4095) ||| (nI t <<< ((12 : Int32) &&& 31))) ||| (nI c <<< ((15 : Int32) &&& 31))) ∧ 0 ≤ (((x &&& 4095) ||| (nI t <<< ((12 : Int32) &&& 31))) ||| (nI c <<< ((15 : Int32) &&& 31))).toInt ∧ (((x &&& 4095) ||| (nI t <<< ((12 : Int32) &&& 31))) ||| (nI c <<< ((15 : Int32) &&& 31))).toInt < 1048576 := by
  have ed : nI (32 * t + c) / 32 = nI t := by rw [div32_nI (by omega)]; congr 1; omega
  have ec : f_X6_cycleOf (nI (32 * t + c)) = nI c := by rw [cyc_nI (by omega)]; congr 1; omega
  have s1 : nI t <<< ((12 : Int32) &&& 31) = nI (t * 2 ^ 12) := pk_shlN _ 12 (by decide) (by omega)
  have s2 : nI c <<< ((15 : Int32) &&& 31) = nI (c * 2 ^ 15) := pk_shlN _ 15 (by decide) (by omega)
  obtain ⟨a, ha, ea⟩ := of_rng (x := x &&& 4095) (N := 4096) (by decide) (by have := gI_and12 x; omega)
  have hr : 0 ≤ (((x &&& 4095) ||| (nI t <<< ((12 : Int32) &&& 31))) ||| (nI c <<< ((15 : Int32) &&& 31))).toInt ∧ (((x &&& 4095) ||| (nI t <<< ((12 : Int32) &&& 31))) ||| (nI c <<< ((15 : Int32) &&& 31))).toInt < 1048576 := by
    rw [ea, s1, s2, nI_or, nI_or]
    have b1 : a ||| t * 2 ^ 12 < 2 ^ 20 := Nat.or_lt_two_pow (by omega) (by omega)
    have b2 : a ||| t * 2 ^ 12 ||| c * 2 ^ 15 < 2 ^ 20 := Nat.or_lt_two_pow b1 (by omega)
    rw [nI_toInt (by omega)]
    omega
  refine ⟨?_, hr⟩
  unfold f_X3_withNext
  rw [ed, ec, SL_4095 (SL_sg x), ← Int32.or_assoc]
  exact (mask_sg _).trans (mask_self hr)
theorem cs_moveNext (h : CR T tm et wt sta he ac ov dr bits slips pt ot fp on temps fi li rin fo lo rout cnt w) (p q r : Int32) :
    k2 sIO (th_X6_moveNext bits p q r) = (f_X7_moveNext w p q r).2.1 ∧ (th_X6_moveNext bits p q r = none → (f_X6_moveNext bits p q r).1 = (f_X7_moveNext w p q r).1) ∧ CR T tm et wt sta he ac ov dr (f_X6_moveNext bits p q r).2 slips pt ot fp on temps fi li rin fo lo rout cnt (f_X7_moveNext w p q r).2.2 := by
  unfold th_X6_moveNext f_X6_moveNext f_X7_moveNext
  rw [rl_iff, rt_iff]
  by_cases c : f_X7_isLocation p q = 0
  · rw [if_pos c, if_pos c, if_neg (Option.some_ne_none _), if_neg (Option.some_ne_none _), k2_1]
    exact ⟨rfl, fun z => absurd z (Option.some_ne_none _), h⟩
  · rw [if_neg c, if_neg c, if_pos rfl, if_pos rfl]
    by_cases c2 : f_X7_isTank r = 0
    · rw [if_pos c2, if_pos c2, if_neg (Option.some_ne_none _), if_neg (Option.some_ne_none _), k2_1]
      exact ⟨rfl, fun z => absurd z (Option.some_ne_none _), h⟩
    · rw [if_neg c2, if_neg c2, if_pos rfl, if_pos rfl]
      obtain ⟨t, k, ht, hk, rfl, rfl⟩ := loc_nat c
      obtain ⟨u, hu, rfl⟩ := tank_nat c2
      have hb : RB bits w := h.2.1.2.2.2.1
      have hO : 32 * t + k < 256 := by omega
      rw [locOf_nI, loc_nI]
      generalize 32 * t + k = O at *
      obtain ⟨f1, f2⟩ := free_it hb hO hu 32 0 (by decide)
      have f1' : f_X6_freeCycleAfter bits (nI O) (nI u) = f_X7_bestFree w (nI O) (nI u) := f1
      have f2' : f_X6_freeCycleAfter bits (nI O) (nI u) = -1 ∨ ∃ c, c < 32 ∧ f_X6_freeCycleAfter bits (nI O) (nI u) = nI c ∧ bits (32 * u + c) = 0 ∧ ¬ 32 * u + c = O := f2
      rw [← f1']
      generalize f_X6_freeCycleAfter bits (nI O) (nI u) = F at *
      rw [ix414 hO, (hb O hO).1, wordAt_nI bits hO, SL_next (SL_sg (bits O))]
      obtain ⟨N, hN, eN⟩ := nxt_nat (bits O)
      rw [eN]
      by_cases g1 : F = -1
      · rw [if_pos g1, if_pos g1, if_pos g1, k2_2 sSO]
        exact ⟨rfl, fun z => absurd z (Option.some_ne_none _), h⟩
      · rw [if_neg g1, if_neg g1, if_neg g1]
        by_cases g2 : nI N = nI O
        · rw [if_pos g2, if_pos g2, if_pos g2, k2_2 sSO]
          exact ⟨rfl, fun z => absurd z (Option.some_ne_none _), h⟩
        · rw [if_neg g2, if_neg g2, if_neg g2, k2_n]
          obtain ⟨m, hm, rfl, hz, hne⟩ := f2'.resolve_left g1
          have hNO : ¬ N = O := fun z => g2 (by rw [z])
          dsimp only
          rw [locOf_nI, loc_nI, ix414 hN, ix414 (k := 32 * u + m) (by omega), (hb N hN).1, wordAt_nI bits hN]
          have hD : 32 * u + m < 256 := by omega
          have hw := wn_eq (x := bits O) hu hm
          refine ⟨rfl, fun _ => rfl, h.1, ?_⟩
          have hcell : upd (upd w (414 + N) 0) (414 + (32 * u + m)) (bits N) (414 + O) = bits O := by rw [pu (by omega), pu (by omega)]; exact (hb O hO).1
          rw [hcell, putWord_nI _ hD, putWord_nI _ hN, putWord_nI _ hO, hw.1, mask_sg, mask_self (hb N hN).2]
          generalize (((bits O &&& 4095) ||| (nI u <<< ((12 : Int32) &&& 31))) ||| (nI m <<< ((15 : Int32) &&& 31))) = V at *
          generalize 32 * u + m = D at *
          have z0 : (0 : Int32) &&& 1048575 = 0 := by decide
          rw [z0]
          have e0 : (0 : Int32).toInt = 0 := by decide
          have hlo : ∀ j, j < 414 → upd (upd (upd w (414 + N) 0) (414 + D) (bits N)) (414 + O) V j = w j := fun j hj => by rw [pu (by omega), pu (by omega), pu (by omega)]
          refine ⟨h.2.1.bits (fun k hk => ?_) hlo, h.2.2.frame (fun j hj => hlo j (by omega))⟩
          by_cases e1 : k = O
          · subst e1; rw [pus, pus]; exact ⟨rfl, hw.2⟩
          · rw [pu (by omega), pu e1]
            by_cases e2 : k = N
            · subst e2
              rw [pus]
              by_cases e3 : k = D
              · subst e3; rw [pus]; exact ⟨hz, by omega, by omega⟩
              · rw [pu (by omega), pus]; exact ⟨rfl, by omega, by omega⟩
            · rw [pu e2]
              by_cases e3 : k = D
              · subst e3; rw [pus, pus]; exact ⟨rfl, (hb N hN).2⟩
              · rw [pu (by omega), pu (by omega), pu e3]; exact hb k hk
theorem path_it (hb : RB bits w) {P c0 : Nat} (hP : P ≤ 200) (hc : c0 < 32) : ∀ n k, k + n = P → 0 < n → ∀ (pl S t : Nat), pl < 256 → S ≤ 200 * k → t ≤ c0 + S → (t + (pl % 32 + 32 * t - t) % 32) = c0 + S →
    wl_X6_pathTime bits (nI P) n k (nI pl) (nI S) = (wl_X7_pathTime w (nI c0) n k (nI pl) (nI t) 1).1 ∧ (wl_X7_pathTime w (nI c0) n k (nI pl) (nI t) 1).2 = 0 := by
  intro n
  induction n with
  | zero => intro k _ h0; omega
  | succ n ih =>
    intro k hk h0 pl S t hpl hS ht hu
    obtain ⟨d, hd, e1, e2⟩ := dur_done (bits pl) (t := c0 + S) (by omega)
    have e3 : (c0 + S) % 32 = pl % 32 := by omega
    rw [e3] at e1
    have hwd := wordAt_nI bits hpl
    have hcy := cyc_nI (k := pl) (by omega)
    have hdone : f_X7_doneAt (w (Int32.toNatClampNeg (414 + nI pl))) (f_X7_until (nI t) (nI pl % 32)) = nI (c0 + S + d) := by
      rw [ix414 hpl, (hb pl hpl).1, mod32_nI (by omega), until_nI (by omega) (by omega), hu, e2]
    have hdur : nI S + f_X3_duration (f_X5_wordAt bits (nI pl)) (f_X6_cycleOf (nI pl)) = nI (S + d) := by
      rw [hwd, hcy, e1, nI_add]
    have hop : f_X3_opcode (f_X5_wordAt bits (nI pl)) = (w (Int32.toNatClampNeg (414 + nI pl))) &&& 15 := by
      rw [hwd, ix414 hpl, (hb pl hpl).1]; exact SL_opcode (SL_sg _)
    have hnx : f_X3_next (f_X5_wordAt bits (nI pl)) = f_X7_nextOf (w (Int32.toNatClampNeg (414 + nI pl))) := by
      rw [hwd, ix414 hpl, (hb pl hpl).1]; exact SL_next (SL_sg _)
    have hsub : nI (c0 + S + d) - nI c0 = nI (S + d) := by
      rw [pk_sub (by omega)]; congr 1; omega
    have eP : nI P - 1 = nI (P - 1) := pk_sub (a := P) (b := 1) (by omega)
    have hend : ∀ x6 : Int32, ∀ pl9, (n = 0 ∨ x6 = 0) → wl_X7_pathTime w (nI c0) n (k + 1) pl9 (nI (c0 + S + d)) x6 = (nI (S + d), 0) := fun x6 pl9 q => by
      cases n with
      | zero => show (_ - _, _) = _; rw [hsub]
      | succ n =>
        have q2 : x6 = 0 := q.resolve_left (by omega)
        refine (if_pos q2).trans ?_
        rw [hsub]
    unfold wl_X6_pathTime wl_X7_pathTime
    rw [if_neg (by decide : ¬ (1 : Int32) = 0), hdone, hdur, hop, eP]
    by_cases l : n = 0
    · have hk2 : nI k = nI (P - 1) := by congr 1; omega
      rw [if_pos hk2]
      by_cases z : (w (Int32.toNatClampNeg (414 + nI pl))) &&& 15 = 0
      · rw [if_pos z, hend _ _ (Or.inl l)]; exact ⟨rfl, rfl⟩
      · rw [if_neg z, hend _ _ (Or.inl l)]; exact ⟨rfl, rfl⟩
    · have hk2 : ¬ nI k = nI (P - 1) := fun q => by
        have := (nI_eq (by omega) (by omega)).mp q
        omega
      rw [if_neg hk2]
      by_cases z : (w (Int32.toNatClampNeg (414 + nI pl))) &&& 15 = 0
      · rw [if_pos z, if_pos z, hend _ _ (Or.inr rfl)]; exact ⟨rfl, rfl⟩
      · rw [if_neg z, if_neg z, hnx]
        obtain ⟨N, hN, eN⟩ := nxt_nat (w (Int32.toNatClampNeg (414 + nI pl)))
        rw [eN]
        have hca : f_X6_cycleAfter bits (nI pl) = nI ((pl % 32 + d) % 32) := by
          unfold f_X6_cycleAfter
          rw [hwd, hcy, e1, nI_add, cyc_nI (by omega)]
        have hwt : f_X6_waitingUntil (nI N) (f_X6_cycleAfter bits (nI pl)) = nI ((N + 32 * ((pl % 32 + d) % 32) - (pl % 32 + d) % 32) % 32) := by
          rw [hca, wU_nI (by omega) (by omega)]
        rw [hwt, nI_add]
        have hml : (N + 32 * ((pl % 32 + d) % 32) - (pl % 32 + d) % 32) % 32 < 32 := Nat.mod_lt _ (by decide)
        exact ih (k + 1) (by omega) (by omega) N _ (c0 + S + d) hN (by omega) (by omega) (by omega)
theorem cs_pathTime (h : CR T tm et wt sta he ac ov dr bits slips pt ot fp on temps fi li rin fo lo rout cnt w) (p q r : Int32) :
    k2 sIO (th_X6_pathTime p q r) = (f_X7_pathTime w p q r).2 ∧ (th_X6_pathTime p q r = none → f_X6_pathTime bits p q r = (f_X7_pathTime w p q r).1) := by
  unfold th_X6_pathTime f_X6_pathTime f_X7_pathTime
  rw [rl_iff, rc200_iff]
  by_cases c : f_X7_isLocation p q = 0
  · rw [if_pos c, if_pos c, if_neg (Option.some_ne_none _), if_neg (Option.some_ne_none _), k2_1]
    exact ⟨rfl, fun z => absurd z (Option.some_ne_none _)⟩
  · rw [if_neg c, if_neg c, if_pos rfl, if_pos rfl]
    by_cases c2 : f_X7_in (Int32.toInt64 r) 1 200 = 0
    · rw [if_pos c2, if_pos c2, if_neg (Option.some_ne_none _), if_neg (Option.some_ne_none _), k2_2 sAI]
      exact ⟨rfl, fun z => absurd z (Option.some_ne_none _)⟩
    · rw [if_neg c2, if_neg c2, if_pos rfl, if_pos rfl, k2_n]
      obtain ⟨t, k, ht, hk, rfl, rfl⟩ := loc_nat c
      have hq := in_ofI (a := 1) (b := 200) c2 (by decide) (by decide)
      obtain ⟨P, hP, rfl⟩ := of_rng (x := r) (N := 201) (by decide) (by omega)
      rw [nI_toInt (by omega)] at hq
      rw [locOf_nI, loc_nI, nI_clamp (by omega)]
      have h0 : (0 : Int32) = nI 0 := rfl
      obtain ⟨r1, r2⟩ := path_it (P := P) (c0 := k) h.2.1.2.2.2.1 (by omega) hk P 0 (by omega) (by omega) (32 * t + k) 0 k (by omega) (by omega) (by omega) (by omega)
      rw [← h0] at r1
      exact ⟨r2.symm, fun _ => r1⟩
/-! snapshots -/
theorem save_at {saved : Nat → Int32} {s : Nat} (hs : s < 2) : ∀ n, n ≤ 670 → ∀ j, it_X7_save_23 w saved (nI s) n j = if 670 * s ≤ j ∧ j < 670 * s + n then w (j - 670 * s) else saved j := by
  intro n
  induction n with
  | zero => intro _ j; rw [if_neg (by omega)]; rfl
  | succ n ih =>
    intro hn j
    show st_X7_save_23 w (nI s) n (it_X7_save_23 w saved (nI s) n) j = _
    unfold st_X7_save_23
    have l : (670 : Int32) = nI 670 := rfl
    have ei : ((670 * nI s) + nI n).toNatClampNeg = 670 * s + n := by rw [l, pk_mul, nI_add, nI_clamp (by omega)]
    rw [ei]
    by_cases e : j = 670 * s + n
    · subst e
      rw [pus, if_pos (by omega)]
      congr 1
      omega
    · rw [pu e, ih (by omega) j]
      by_cases q : 670 * s ≤ j ∧ j < 670 * s + n
      · rw [if_pos q, if_pos (by omega)]
      · rw [if_neg q, if_neg (by omega)]
theorem restore_at {saved : Nat → Int32} {s : Nat} (hs : s < 2) : ∀ n k, k + n = 670 → ∀ z : Nat → Int32, (wl_X7_restore saved (nI s) n k z).1 = 0 ∧ (∀ j, k ≤ j → j < 670 → (wl_X7_restore saved (nI s) n k z).2 j = saved (670 * s + j)) ∧ ∀ j, j < k → (wl_X7_restore saved (nI s) n k z).2 j = z j := by
  intro n
  induction n with
  | zero => intro k hk z; exact ⟨rfl, fun j h1 h2 => by omega, fun _ _ => rfl⟩
  | succ n ih =>
    intro k hk z
    have l : (670 : Int32) = nI 670 := rfl
    have ei : ((670 * nI s) + nI k).toNatClampNeg = 670 * s + k := by rw [l, pk_mul, nI_add, nI_clamp (by omega)]
    obtain ⟨i1, i2, i3⟩ := ih (k + 1) (by omega) (upd z k (saved (Int32.toNatClampNeg ((670 * nI s) + (nI k)))))
    refine ⟨i1, fun j h1 h2 => ?_, fun j h1 => ?_⟩
    · by_cases e : j = k
      · subst e
        show (wl_X7_restore saved (nI s) n (j + 1) _).2 j = _
        rw [i3 j (by omega), pus, ei]
      · exact i2 j (by omega) h2
    · show (wl_X7_restore saved (nI s) n (k + 1) _).2 j = _
      rw [i3 j (by omega), pu (by omega)]
theorem restore_e2 (saved : Nat → Int32) (p : Int32) : ∀ n k z, wl_X7_restore_e2 saved p n k z = wl_X7_restore saved p n k z := by
  intro n
  induction n with
  | zero => intro k z; rfl
  | succ n ih => intro k z; exact ih (k + 1) _
end CRl
