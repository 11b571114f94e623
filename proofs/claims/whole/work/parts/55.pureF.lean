/-! PURE F: what else the two states hold; the waiting; words joined by the operations -/
/-- a queue: the class's ring against the reference's row from cell b on -/
def RQ (b : Nat) (f l : Int32) (ring w : Nat → Int32) : Prop := ∃ F L : Nat, F < 64 ∧ L ≤ 64 ∧ f = nI F ∧ l = nI L ∧ ∀ i, i < L → w (b + i) = ring ((F + i) % 64) ∧ -524288 ≤ (ring ((F + i) % 64)).toInt ∧ (ring ((F + i) % 64)).toInt < 524288
def w20 (x : Int32) : Prop := -524288 ≤ x.toInt ∧ x.toInt < 524288
def RR (et wt sta he ac ov fi li : Int32) (rin : Nat → Int32) (fo lo : Int32) (rout cnt w : Nat → Int32) : Prop :=
  (w 1 = ac ∧ w 2 = ov ∧ w 3 = he ∧ w 4 = sta ∧ w 5 = et ∧ w 6 = wt ∧ w 12 = li ∧ w 13 = lo) ∧ (∀ k, k < 256 → w (158 + k) = cnt k) ∧ RQ 30 fi li rin w ∧ RQ 94 fo lo rout w ∧ (0 ≤ he.toInt ∧ he.toInt < 256) ∧ g01 ov ∧ w20 ac
theorem RQ.frame {b : Nat} {f l : Int32} {ring w v : Nat → Int32} (h : RQ b f l ring w) (hv : ∀ i, i < 64 → v (b + i) = w (b + i)) : RQ b f l ring v := by
  obtain ⟨F, L, h1, h2, h3, h4, h5⟩ := h
  exact ⟨F, L, h1, h2, h3, h4, fun i hi => ⟨by rw [hv i (by omega)]; exact (h5 i hi).1, (h5 i hi).2⟩⟩
theorem RR.frame {et wt sta he ac ov fi li fo lo : Int32} {rin rout cnt w v : Nat → Int32} (h : RR et wt sta he ac ov fi li rin fo lo rout cnt w) (hv : ∀ j, ((1 ≤ j ∧ j ≤ 6) ∨ (12 ≤ j ∧ j ≤ 13) ∨ (30 ≤ j ∧ j < 414)) → v j = w j) : RR et wt sta he ac ov fi li rin fo lo rout cnt v := by
  obtain ⟨⟨a1, a2, a3, a4, a5, a6, a7, a8⟩, b, c, d, e⟩ := h
  refine ⟨⟨?_, ?_, ?_, ?_, ?_, ?_, ?_, ?_⟩, fun k hk => ?_, c.frame (fun i hi => hv _ (by omega)), d.frame (fun i hi => hv _ (by omega)), e⟩
  · rw [hv 1 (by omega)]; exact a1
  · rw [hv 2 (by omega)]; exact a2
  · rw [hv 3 (by omega)]; exact a3
  · rw [hv 4 (by omega)]; exact a4
  · rw [hv 5 (by omega)]; exact a5
  · rw [hv 6 (by omega)]; exact a6
  · rw [hv 12 (by omega)]; exact a7
  · rw [hv 13 (by omega)]; exact a8
  · rw [hv _ (by omega)]; exact b k hk
theorem RR.fr {et wt sta he ac ov fi li fo lo : Int32} {rin rout cnt w v : Nat → Int32} (h : RR et wt sta he ac ov fi li rin fo lo rout cnt w) (hv : Fr w v) : RR et wt sta he ac ov fi li rin fo lo rout cnt v := h.frame (fun j hj => hv j (by omega))
theorem RR.hi {et wt sta he ac ov fi li fo lo : Int32} {rin rout cnt w : Nat → Int32} {j : Nat} {x : Int32} (h : RR et wt sta he ac ov fi li rin fo lo rout cnt w) (hj : 414 ≤ j) : RR et wt sta he ac ov fi li rin fo lo rout cnt (upd w j x) := h.frame (fun i hi => pu (by omega))
theorem RR.wt {et wt sta he ac ov fi li fo lo x : Int32} {rin rout cnt w : Nat → Int32} (h : RR et wt sta he ac ov fi li rin fo lo rout cnt w) : RR et x sta he ac ov fi li rin fo lo rout cnt (upd w 6 x) := by
  obtain ⟨⟨a1, a2, a3, a4, a5, a6, a7, a8⟩, b, c, d, e⟩ := h
  exact ⟨⟨a1, a2, a3, a4, a5, pus, a7, a8⟩, fun k hk => by rw [pu (by omega)]; exact b k hk, c.frame (fun i hi => pu (by omega)), d.frame (fun i hi => pu (by omega)), e⟩
theorem RR.ac {et wt sta he ac ov fi li fo lo x : Int32} {rin rout cnt w : Nat → Int32} (h : RR et wt sta he ac ov fi li rin fo lo rout cnt w) (hx : w20 x) : RR et wt sta he x ov fi li rin fo lo rout cnt (upd w 1 x) := by
  obtain ⟨⟨a1, a2, a3, a4, a5, a6, a7, a8⟩, b, c, d, e, f, g⟩ := h
  exact ⟨⟨pus, a2, a3, a4, a5, a6, a7, a8⟩, fun k hk => by rw [pu (by omega)]; exact b k hk, c.frame (fun i hi => pu (by omega)), d.frame (fun i hi => pu (by omega)), e, f, hx⟩
theorem RR.ov {et wt sta he ac ov fi li fo lo x : Int32} {rin rout cnt w : Nat → Int32} (h : RR et wt sta he ac ov fi li rin fo lo rout cnt w) (hx : g01 x) : RR et wt sta he ac x fi li rin fo lo rout cnt (upd w 2 x) := by
  obtain ⟨⟨a1, a2, a3, a4, a5, a6, a7, a8⟩, b, c, d, e, f, g⟩ := h
  exact ⟨⟨a1, pus, a3, a4, a5, a6, a7, a8⟩, fun k hk => by rw [pu (by omega)]; exact b k hk, c.frame (fun i hi => pu (by omega)), d.frame (fun i hi => pu (by omega)), e, hx, g⟩
theorem RR.sta {et wt sta he ac ov fi li fo lo x : Int32} {rin rout cnt w : Nat → Int32} (h : RR et wt sta he ac ov fi li rin fo lo rout cnt w) : RR et wt x he ac ov fi li rin fo lo rout cnt (upd w 4 x) := by
  obtain ⟨⟨a1, a2, a3, a4, a5, a6, a7, a8⟩, b, c, d, e⟩ := h
  exact ⟨⟨a1, a2, a3, pus, a5, a6, a7, a8⟩, fun k hk => by rw [pu (by omega)]; exact b k hk, c.frame (fun i hi => pu (by omega)), d.frame (fun i hi => pu (by omega)), e⟩
/-- the place, the count and the count of the place, as an executed instruction leaves them -/
def exT (V : Nat → Int32) (nx fr : Int32) : Nat → Int32 := upd (upd (upd V 3 nx) 5 (((upd V 3 nx) 5) + 1)) (Int32.toNatClampNeg (158 + fr)) (((upd (upd V 3 nx) 5 (((upd V 3 nx) 5) + 1)) (Int32.toNatClampNeg (158 + fr))) + 1)
theorem exT_ne {V : Nat → Int32} {nx : Int32} {h j : Nat} (hh : h < 256) (h3 : j ≠ 3) (h5 : j ≠ 5) (hj : j ≠ 158 + h) : exT V nx (nI h) j = V j := by
  unfold exT
  rw [ix158 hh, pu hj, pu h5, pu h3]
theorem RR.tail {et wt sta he ac ov fi li fo lo nx : Int32} {rin rout cnt V : Nat → Int32} (h : RR et wt sta he ac ov fi li rin fo lo rout cnt V) (hn : 0 ≤ nx.toInt ∧ nx.toInt < 256) :
    RR (et + 1) wt sta nx ac ov fi li rin fo lo rout (upd cnt (Int32.toNatClampNeg (he &&& 255)) ((cnt (Int32.toNatClampNeg (he &&& 255))) + 1)) (exT V nx he) := by
  obtain ⟨⟨a1, a2, a3, a4, a5, a6, a7, a8⟩, b, c, d, e, f⟩ := h
  obtain ⟨k0, hk0, rfl⟩ := of_rng (N := 256) (by decide) e
  rw [ix255 hk0]
  refine ⟨⟨?_, ?_, ?_, ?_, ?_, ?_, ?_, ?_⟩, fun k hk => ?_, c.frame (fun i hi => exT_ne hk0 (by omega) (by omega) (by omega)), d.frame (fun i hi => exT_ne hk0 (by omega) (by omega) (by omega)), hn, f⟩
  · rw [exT_ne hk0 (by omega) (by omega) (by omega)]; exact a1
  · rw [exT_ne hk0 (by omega) (by omega) (by omega)]; exact a2
  · unfold exT; rw [ix158 hk0, pu (by omega), pu (by omega), pus]
  · rw [exT_ne hk0 (by omega) (by omega) (by omega)]; exact a4
  · unfold exT; rw [ix158 hk0, pu (by omega), pus, pu (by omega), a5]
  · rw [exT_ne hk0 (by omega) (by omega) (by omega)]; exact a6
  · rw [exT_ne hk0 (by omega) (by omega) (by omega)]; exact a7
  · rw [exT_ne hk0 (by omega) (by omega) (by omega)]; exact a8
  · by_cases q : k = k0
    · subst q
      unfold exT
      rw [ix158 hk0, pus, pus, pu (by omega), pu (by omega), b k hk]
    · rw [exT_ne hk0 (by omega) (by omega) (by omega), pu q]
      exact b k hk
theorem RW.frame {T : Nat} {dr pt ot fp on : Int32} {bits slips temps w v : Nat → Int32} (h : RW T dr bits slips pt ot fp on temps w) (hv : ∀ j, (j = 0 ∨ (7 ≤ j ∧ j ≤ 11) ∨ (14 ≤ j ∧ j < 30) ∨ 414 ≤ j) → v j = w j) : RW T dr bits slips pt ot fp on temps v := by
  obtain ⟨⟨h0, h7, h8, h9, h10, h11⟩, ht, hs, hb, hRP, hon⟩ := h
  refine ⟨⟨?_, ?_, ?_, ?_, ?_, ?_⟩, fun t q => ⟨?_, (ht t q).2⟩, fun t q => ?_, hb.frame (fun k q => hv _ (by omega)), ⟨?_, ?_, ?_⟩, hon⟩
  · rw [hv 0 (by omega)]; exact h0
  · rw [hv 7 (by omega)]; exact h7
  · rw [hv 8 (by omega)]; exact h8
  · rw [hv 9 (by omega)]; exact h9
  · rw [hv 10 (by omega)]; exact h10
  · rw [hv 11 (by omega)]; exact h11
  · rw [hv _ (by omega)]; exact (ht t q).1
  · rw [hv _ (by omega)]; exact hs t q
  · rw [hv 8 (by omega)]; exact hRP.1
  · rw [hv 9 (by omega)]; exact hRP.2.1
  · rw [hv 11 (by omega)]; exact hRP.2.2
theorem RW.low {T : Nat} {dr pt ot fp on : Int32} {bits slips temps w : Nat → Int32} (h : RW T dr bits slips pt ot fp on temps w) {j : Nat} {x : Int32} (hj : (1 ≤ j ∧ j ≤ 6) ∨ (12 ≤ j ∧ j ≤ 13) ∨ (30 ≤ j ∧ j < 414)) : RW T dr bits slips pt ot fp on temps (upd w j x) := h.frame (fun i hi => pu (by omega))
theorem RW.tail {T : Nat} {dr pt ot fp on nx he : Int32} {bits slips temps w : Nat → Int32} (h : RW T dr bits slips pt ot fp on temps w) (e : 0 ≤ he.toInt ∧ he.toInt < 256) : RW T dr bits slips pt ot fp on temps (exT w nx he) := by
  obtain ⟨k0, hk0, rfl⟩ := of_rng (N := 256) (by decide) e
  exact h.frame (fun i hi => exT_ne hk0 (by omega) (by omega) (by omega))
theorem RW.put {T : Nat} {dr pt ot fp on : Int32} {bits slips temps w : Nat → Int32} (h : RW T dr bits slips pt ot fp on temps w) {k : Nat} (hk : k < 256) (v : Int32) : RW T dr (f_X5_putWord bits (nI k) v) slips pt ot fp on temps (upd w (414 + k) (v &&& 1048575)) := by
  obtain ⟨⟨h0, h7, h8, h9, h10, h11⟩, ht, hs, hb, hRP, hon⟩ := h
  refine ⟨⟨?_, ?_, ?_, ?_, ?_, ?_⟩, fun t q => ⟨?_, (ht t q).2⟩, fun t q => ?_, hb.putWord hk v, ⟨?_, ?_, ?_⟩, hon⟩
  · rw [pu (by omega)]; exact h0
  · rw [pu (by omega)]; exact h7
  · rw [pu (by omega)]; exact h8
  · rw [pu (by omega)]; exact h9
  · rw [pu (by omega)]; exact h10
  · rw [pu (by omega)]; exact h11
  · rw [pu (by omega)]; exact (ht t q).1
  · rw [pu (by omega)]; exact hs t q
  · rw [pu (by omega)]; exact hRP.1
  · rw [pu (by omega)]; exact hRP.2.1
  · rw [pu (by omega)]; exact hRP.2.2
/-! tuples of the class's functions -/
abbrev tyA : Type := Int32 × Int32 × (Nat → Int32) × (Nat → Int32) × (Nat → Int32) × Int32 × (Nat → Int32)
abbrev tyP : Type := Int32 × (Nat → Int32) × (Nat → Int32) × (Nat → Int32) × Int32 × (Nat → Int32)
abbrev tyF : Type := Int32 × Int32 × Int32 × (Nat → Int32) × Int32 × Int32 × Int32 × (Nat → Int32)
theorem pass_rel {T n : Nat} {dr pt ot fp on et wt sta he ac ov fi li fo lo : Int32} {bits ring ring2 slips temps rin rout cnt w : Nat → Int32} (hW : RW T dr bits slips pt ot fp on temps w) (hR : RR et wt sta he ac ov fi li rin fo lo rout cnt w) (hn : T + n < 190000000) {t : tyP} (ht : f_X2_pass T dr bits ring slips pt ot fp on temps n = t) :
    RW (T + n) t.1 t.2.1 t.2.2.2.1 t.2.2.2.2.1 ot fp on t.2.2.2.2.2 (f_X7_passes w ring2 n).1 ∧ RR et wt sta he ac ov fi li rin fo lo rout cnt (f_X7_passes w ring2 n).1 := by
  subst ht
  have h := RW_pass (ring := ring) (ring2 := ring2) hW hn
  exact ⟨h.1, hR.fr h.2⟩
theorem wait_rel {T p : Nat} {dr pt ot fp on et wt sta he ac ov fi li fo lo : Int32} {bits ring ring2 slips temps rin rout cnt w : Nat → Int32} (hW : RW T dr bits slips pt ot fp on temps w) (hR : RR et wt sta he ac ov fi li rin fo lo rout cnt w) (hp : p < 256) (hT : T + 32 < 190000000) {t : tyA} (ht : f_X2_awaitCycle wt T dr bits ring slips pt ot fp on temps (nI p) = t) :
    ∃ n, n < 32 ∧ f_X6_waitingUntil (nI p) (nI T) = nI n ∧ RW (T + n) t.2.1 t.2.2.1 t.2.2.2.2.1 t.2.2.2.2.2.1 ot fp on t.2.2.2.2.2.2 (f_X7_waitsFor w ring2 (nI p % 32)).1 ∧ RR et t.1 sta he ac ov fi li rin fo lo rout cnt (f_X7_waitsFor w ring2 (nI p % 32)).1 := by
  subst ht
  have h0 : w 0 = nI T := hW.1.1
  have h6 : w 6 = wt := hR.1.2.2.2.2.2.1
  have e1 := wU_nI (a := p) (b := T) (by omega) (by omega)
  have e2 := wF_nI (c := p % 32) (t := T) (by omega) (by omega)
  have e3 : (p % 32 + 32 * T - T) % 32 = (p + 32 * T - T) % 32 := by omega
  rw [e3] at e2
  refine ⟨(p + 32 * T - T) % 32, Nat.mod_lt _ (by decide), e1, ?_⟩
  unfold f_X2_awaitCycle f_X7_waitsFor
  dsimp only
  rw [h0, h6, mod32_nI (k := p) (by omega), e2, e1, nI_clamp (by omega)]
  have hm : (p + 32 * T - T) % 32 < 32 := Nat.mod_lt _ (by decide)
  generalize (p + 32 * T - T) % 32 = n at *
  exact pass_rel (hW.low (by omega)) hR.wt (by omega) rfl
/-! words -/
theorem w20_sg (x : Int32) : w20 (sg x) := sg_rng x
theorem w20_wrap (v : Int64) : w20 (f_X6_wrap v) := by
  unfold w20
  rw [wr_x6]
  exact s20_rng _
theorem shr19 (x : Int32) : (x >>> ((19 : Int32) &&& 31)).toInt = x.toInt / 524288 := shr_I x 19 (by decide)
theorem w20_iff (x : Int32) : w20 x ↔ (x >>> ((19 : Int32) &&& 31)) = 0 ∨ (x >>> ((19 : Int32) &&& 31)) = -1 := by
  have e0 : (0 : Int32).toInt = 0 := by decide
  have e1 : (-1 : Int32).toInt = -1 := by decide
  have h := shr19 x
  unfold w20
  constructor
  · intro q
    rcases Int.lt_or_le x.toInt 0 with z | z
    · exact Or.inr (gI_ext (by omega))
    · exact Or.inl (gI_ext (by omega))
  · intro q
    rcases q with q | q
    · rw [q] at h; omega
    · rw [q] at h; omega
theorem w20_and {x y : Int32} (hx : w20 x) (hy : w20 y) : w20 (x &&& y) := by
  rw [w20_iff] at hx hy ⊢
  rw [Int32.shiftRight_and]
  rcases hx with hx | hx <;> rcases hy with hy | hy <;> rw [hx, hy] <;> decide
theorem w20_xor {x y : Int32} (hx : w20 x) (hy : w20 y) : w20 (x ^^^ y) := by
  rw [w20_iff] at hx hy ⊢
  rw [Int32.shiftRight_xor]
  rcases hx with hx | hx <;> rcases hy with hy | hy <;> rw [hx, hy] <;> decide
theorem shAmtL : ∀ n, n < 32 → ((Int32.toInt64 (nI n) &&& 63).toBitVec.smod 64).toNat = n := by decide +kernel
theorem div2_w20 {z : Int} (n : Nat) (h : -524288 ≤ z ∧ z < 524288) : -524288 ≤ z / 2 ^ n ∧ z / 2 ^ n < 524288 := by
  have hp : (0 : Int) < 2 ^ n := Int.pow_pos (by decide)
  constructor
  · refine (Int.le_ediv_iff_mul_le hp).mpr ?_
    have h1 : (-524288 : Int) * 2 ^ n ≤ -524288 * 1 := Int.mul_le_mul_of_nonpos_left (by decide) (by omega)
    omega
  · refine Int.ediv_lt_of_lt_mul hp ?_
    have h1 : (524288 : Int) * 1 ≤ 524288 * 2 ^ n := Int.mul_le_mul_of_nonneg_left (by omega) (by decide)
    omega
theorem shrL_eq {x : Int32} {n : Nat} (hn : n < 32) (hx : w20 x) : f_X7_wrap ((Int32.toInt64 x) >>> ((Int32.toInt64 (nI n)) &&& 63)) = x >>> (nI n &&& 31) ∧ w20 (x >>> (nI n &&& 31)) := by
  have e1 : ((Int32.toInt64 x) >>> ((Int32.toInt64 (nI n)) &&& 63)).toInt = x.toInt / 2 ^ n := by
    show ((Int32.toInt64 x).toBitVec.sshiftRight ((Int32.toInt64 (nI n) &&& 63).toBitVec.smod 64).toNat).toInt = _
    rw [shAmtL n hn, BitVec.toInt_sshiftRight, Int.shiftRight_eq_div_pow]
    have e9 : (Int32.toInt64 x).toBitVec.toInt = x.toInt := gI_l x
    rw [e9]
    first | rfl | simp
  have e2 : (x >>> (nI n &&& 31)).toInt = x.toInt / 2 ^ n := shr_I x n (shAmt n hn)
  have h := div2_w20 n hx
  exact ⟨gI_ext (by rw [wr_x7, e1, e2, s20_self h]), by unfold w20; rw [e2]; exact h⟩
