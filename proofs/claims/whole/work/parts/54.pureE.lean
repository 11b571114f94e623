/-! PURE E: the end of a major cycle; the passing of minor cycles -/
def TS (w v : Nat → Int32) (dr : Int32) (bits slips : Nat → Int32) : Prop := (∀ j, j < 22 → j ≠ 7 → v j = w j) ∧ (∀ j, 30 ≤ j → j < 414 → v j = w j) ∧ v 7 = dr ∧ RB bits v ∧ ∀ t, t < 8 → v (22 + t) = slips t
theorem TS_move {w v bits ring ring2 slips : Nat → Int32} {dr k : Int32} {t : Nat} (h : TS w v dr bits slips) (ht : t < 8) (hk : -1000000000 ≤ k.toInt ∧ k.toInt ≤ 1000000000) (hk0 : ¬ k = 0) :
    TS w (f_X7_moves v ring2 (nI t) k).1 dr (f_X5_moveBits bits ring slips (nI t) k).1 (f_X5_moveBits bits ring slips (nI t) k).2.2 := by
  obtain ⟨h1, h2, h3, h4, h5⟩ := h
  have hb := RB_moves (ring := ring) (ring2 := ring2) (slips := slips) h4 ht hk hk0
  have hT := Tk_nI ht
  have hc := Tk_cl ht
  refine ⟨fun j a b => ?_, fun j a b => ?_, ?_, hb, fun u hu => ?_⟩
  · rw [moves_lo hT a]; exact h1 j a b
  · rw [moves_ne hT (fun c hc9 => by omega) (by rw [hc]; omega)]; exact h2 j a b
  · rw [moves_lo hT (by decide)]; exact h3
  · unfold f_X5_moveBits
    rw [if_neg hk0]
    show _ = upd slips (nI t &&& 7).toNatClampNeg (slips (nI t &&& 7).toNatClampNeg + f_J9_abs_0f7a4 k) u
    rw [ix7 ht]
    by_cases e : u = t
    · subst e
      unfold f_X7_moves
      show upd _ _ _ _ = _
      rw [ix22 hu, pus, pus, moves72_ne hT 32 (Nat.le_refl _) (fun c hc9 => by rw [hc]; omega), h5 u hu]
      rfl
    · rw [pu e, moves_ne hT (fun c hc9 => by rw [hc]; omega) (by rw [hc]; omega)]
      exact h5 u hu
theorem TS_stay {w v bits ring slips : Nat → Int32} {dr k : Int32} {t : Int32} (h : TS w v dr bits slips) (hk0 : k = 0) :
    TS w v dr (f_X5_moveBits bits ring slips t k).1 (f_X5_moveBits bits ring slips t k).2.2 := by
  unfold f_X5_moveBits
  rw [if_pos hk0]
  exact h
theorem TS_drop {w v bits slips : Nat → Int32} {dr : Int32} {t M : Nat} (h : TS w v dr bits slips) (ht : t < 8) (hM : M < 6000000) (h0 : w 0 = nI (32 * M)) :
    TS w (f_X7_drops v (nI t)) (f_X5_dropBit bits dr (nI t) ((7 * nI M + nI t) % 640)).1 (f_X5_dropBit bits dr (nI t) ((7 * nI M + nI t) % 640)).2 slips := by
  obtain ⟨h1, h2, h3, h4, h5⟩ := h
  have hv0 : v 0 = nI (32 * M) := by rw [h1 0 (by decide) (by decide)]; exact h0
  obtain ⟨d1, d2⟩ := drop_rel ht (by omega) hv0 h3 h4
  have hT := Tk_nI ht
  have hc := Tk_cl ht
  have hv : 0 ≤ (v 0).toInt ∧ (v 0).toInt < 200000000 := by rw [hv0, nI_toInt (by omega)]; omega
  refine ⟨fun j a b => ?_, fun j a b => ?_, d1, d2, fun u hu => ?_⟩
  · rw [drops_lo hT hv a b]; exact h1 j a b
  · rw [drops_ne hT hv (by omega) (fun c hc9 => by omega)]; exact h2 j a b
  · rw [drops_ne hT hv (by omega) (fun c hc9 => by rw [hc]; omega)]; exact h5 u hu
theorem TS_step {w v bits ring ring2 slips temps : Nat → Int32} {dr pt fp on : Int32} {k M : Nat} (h : TS w v dr bits slips) (hk : k < 8) (hM : M < 6000000) (h0 : w 0 = nI (32 * M)) (h9 : w 9 = pt) (h10 : w 10 = on) (h11 : w 11 = fp) (hon : g01 on) (hRP : RP w)
    (ht : ∀ t, t < 8 → w (14 + t) = temps t ∧ 0 ≤ (temps t).toInt ∧ (temps t).toInt ≤ 1000) :
    TS w (st_X7_ends_7 w k v ring2).1 (st_X2_endMajorCycle_15 pt fp on temps (nI M) k bits ring slips dr).2.2.2 (st_X2_endMajorCycle_15 pt fp on temps (nI M) k bits ring slips dr).1 (st_X2_endMajorCycle_15 pt fp on temps (nI M) k bits ring slips dr).2.2.1 := by
  have hper : f_X7_periodNow w = f_X1_clockPeriod pt fp on := per_eq h9 h10 h11 hon
  have hpr := period_rng hRP
  rw [hper] at hpr
  have hv : ∀ j, j < 22 → j ≠ 7 → v j = w j := h.1
  have hperv : f_X7_periodNow v = f_X1_clockPeriod pt fp on := per_eq (by rw [hv 9 (by decide) (by decide)]; exact h9) (by rw [hv 10 (by decide) (by decide)]; exact h10) (by rw [hv 11 (by decide) (by decide)]; exact h11) hon
  obtain ⟨t1, t2⟩ := ht k hk
  have hvt : v (Int32.toNatClampNeg (14 + nI k)) = temps k := by rw [ix14 hk, hv _ (by omega) (by omega)]; exact t1
  have hmr := mis_rng t2 hpr
  have hhr := half_rng hpr
  unfold st_X7_ends_7 st_X2_endMajorCycle_15
  dsimp only
  rw [hper, hvt, mis_eq hperv, temp_nI temps hk]
  generalize f_X1_clockPeriod pt fp on = P at *
  generalize f_X6_mismatchOf (temps k) P = E at *
  have ea := gI_add (x := E) (y := P / 2) (by omega) (by omega)
  rw [floor_eq (a := E + P / 2) (p := P) (by omega) (by omega)]
  have hfr := floor_rng (a := E + P / 2) (p := P) (by omega) (by omega)
  generalize f_X7_floor (E + P / 2) P = K at *
  have hde : f_J9_abs_0f7a4 (E - K * P) = f_X7_distance (E - K * P) := rfl
  rw [hde]
  by_cases hk0 : K = 0
  · rw [if_pos hk0]
    by_cases hd : f_X7_distance (E - K * P) ≤ P / 4
    · rw [if_pos hd, if_pos hd]
      exact TS_stay h hk0
    · rw [if_neg hd, if_neg hd]
      exact TS_drop (TS_stay (ring := ring) (t := nI k) h hk0) hk hM h0
  · rw [if_neg hk0]
    by_cases hd : f_X7_distance (E - K * P) ≤ P / 4
    · rw [if_pos hd, if_pos hd]
      exact TS_move h hk hfr hk0
    · rw [if_neg hd, if_neg hd]
      exact TS_drop (TS_move (ring := ring) (ring2 := ring2) h hk hfr hk0) hk hM h0
theorem TS_all {w bits ring ring2 slips temps : Nat → Int32} {dr pt fp on : Int32} {M : Nat} (h : TS w w dr bits slips) (hM : M < 6000000) (h0 : w 0 = nI (32 * M)) (h9 : w 9 = pt) (h10 : w 10 = on) (h11 : w 11 = fp) (hon : g01 on) (hRP : RP w)
    (ht : ∀ t, t < 8 → w (14 + t) = temps t ∧ 0 ≤ (temps t).toInt ∧ (temps t).toInt ≤ 1000) :
    ∀ k, k ≤ 8 → TS w (it_X7_ends_7 w ring2 k).1 (it_X2_endMajorCycle_15 dr bits ring slips pt fp on temps (nI M) k).2.2.2 (it_X2_endMajorCycle_15 dr bits ring slips pt fp on temps (nI M) k).1 (it_X2_endMajorCycle_15 dr bits ring slips pt fp on temps (nI M) k).2.2.1 := by
  intro k
  induction k with
  | zero => intro _; exact h
  | succ k ih =>
    intro hk
    exact TS_step (ih (by omega)) (by omega) hM h0 h9 h10 h11 hon hRP ht
/-! the drift of the temperatures -/
theorem drift_it (ot : Int32) (temps : Nat → Int32) : ∀ k, k ≤ 8 → ∀ t, it_X1_drift_2 ot temps k t = if t < k then temps t + (ot - temps t) / 8 else temps t := by
  intro k
  induction k with
  | zero => intro _ t; rfl
  | succ k ih =>
    intro hk t
    show st_X1_drift_2 ot k (it_X1_drift_2 ot temps k) t = _
    unfold st_X1_drift_2 f_X1_putTemperature
    rw [temp_nI _ (by omega), ix7 (by omega)]
    have e1 := ih (by omega) k
    rw [if_neg (by omega)] at e1
    rw [e1]
    by_cases e : t = k
    · subst e; rw [pus, if_pos (by omega)]
    · rw [pu e, ih (by omega) t]
      by_cases q : t < k
      · rw [if_pos q, if_pos (by omega)]
      · rw [if_neg q, if_neg (by omega)]
theorem warms_it (v : Nat → Int32) : ∀ k, k ≤ 8 → ∀ t, t < 8 → it_X7_warms_2 v k (14 + t) = if t < k then v (14 + t) + (v 8 - v (14 + t)) / 8 else v (14 + t) := by
  intro k
  induction k with
  | zero => intro _ t _; rfl
  | succ k ih =>
    intro hk t ht
    show st_X7_warms_2 k (it_X7_warms_2 v k) (14 + t) = _
    unfold st_X7_warms_2
    rw [ix14 (by omega), warms_ne (w := v) (j := 8) k (by omega) (fun c _ => by omega)]
    have e1 := ih (by omega) k (by omega)
    rw [if_neg (by omega)] at e1
    rw [e1]
    by_cases e : t = k
    · subst e; rw [pus, if_pos (by omega)]
    · rw [pu (by omega), ih (by omega) t ht]
      by_cases q : t < k
      · rw [if_pos q, if_pos (by omega)]
      · rw [if_neg q, if_neg (by omega)]
theorem drift_rel {v temps : Nat → Int32} {pt ot : Int32} (h8 : v 8 = ot) (h9 : v 9 = pt) (ho : 0 ≤ ot.toInt ∧ ot.toInt ≤ 1000) (hp : 0 ≤ pt.toInt ∧ pt.toInt ≤ 1000) (ht : ∀ t, t < 8 → v (14 + t) = temps t ∧ 0 ≤ (temps t).toInt ∧ (temps t).toInt ≤ 1000) :
    f_X7_warms v 9 = (f_X1_drift pt ot temps).1 ∧ (0 ≤ (f_X1_drift pt ot temps).1.toInt ∧ (f_X1_drift pt ot temps).1.toInt ≤ 1000) ∧ (∀ t, t < 8 → f_X7_warms v (14 + t) = (f_X1_drift pt ot temps).2 t ∧ 0 ≤ ((f_X1_drift pt ot temps).2 t).toInt ∧ ((f_X1_drift pt ot temps).2 t).toInt ≤ 1000) ∧ ∀ j, j ≠ 9 → (∀ c, c < 8 → j ≠ 14 + c) → f_X7_warms v j = v j := by
  refine ⟨?_, (gWarm ho hp).2, fun t h => ?_, fun j a b => warms_lo a b⟩
  · unfold f_X7_warms f_X1_drift
    rw [pus, warms_ne (w := v) (j := 9) 8 (Nat.le_refl _) (fun c _ => by omega), warms_ne (w := v) (j := 8) 8 (Nat.le_refl _) (fun c _ => by omega), h8, h9]
  · obtain ⟨a, b⟩ := ht t h
    have e1 : (f_X1_drift pt ot temps).2 t = temps t + (ot - temps t) / 8 := by
      show it_X1_drift_2 ot temps 8 t = _
      rw [drift_it ot temps 8 (Nat.le_refl _), if_pos h]
    have e2 : f_X7_warms v (14 + t) = temps t + (ot - temps t) / 8 := by
      unfold f_X7_warms
      rw [pu (by omega), warms_it v 8 (Nat.le_refl _) t h, if_pos h, h8, a]
    rw [e1, e2]
    exact ⟨rfl, (gWarm ho b).2⟩
/-- all that the passing of time leaves as it was -/
def Fr (w v : Nat → Int32) : Prop := ∀ j, ((1 ≤ j ∧ j ≤ 6) ∨ j = 8 ∨ (10 ≤ j ∧ j ≤ 13) ∨ (30 ≤ j ∧ j < 414)) → v j = w j
theorem Fr.rf (w : Nat → Int32) : Fr w w := fun _ _ => rfl
theorem Fr.tr {u w v : Nat → Int32} (h : Fr u w) (h2 : Fr w v) : Fr u v := fun j q => (h2 j q).trans (h j q)
theorem RW_ends {T : Nat} {dr pt ot fp on : Int32} {bits ring ring2 slips temps w : Nat → Int32} (h : RW T dr bits slips pt ot fp on temps w) (hT : T < 190000000) (h32 : T % 32 = 0) :
    RW T (f_X2_endMajorCycle dr bits ring slips pt ot fp on temps (nI (T / 32))).1 (f_X2_endMajorCycle dr bits ring slips pt ot fp on temps (nI (T / 32))).2.1 (f_X2_endMajorCycle dr bits ring slips pt ot fp on temps (nI (T / 32))).2.2.2.1 (f_X2_endMajorCycle dr bits ring slips pt ot fp on temps (nI (T / 32))).2.2.2.2.1 ot fp on (f_X2_endMajorCycle dr bits ring slips pt ot fp on temps (nI (T / 32))).2.2.2.2.2 (f_X7_ends w ring2).1 ∧ Fr w (f_X7_ends w ring2).1 := by
  obtain ⟨⟨h0, h7, h8, h9, h10, h11⟩, ht, hs, hb, hRP, hon⟩ := h
  have hw0 : w 0 = nI (32 * (T / 32)) := by rw [h0]; congr 1; omega
  have hper : f_X7_periodNow w = f_X1_clockPeriod pt fp on := per_eq h9 h10 h11 hon
  have hpr := period_rng hRP
  rw [hper] at hpr
  have e0 : (0 : Int32).toInt = 0 := by decide
  have hpos : 0 < f_X1_clockPeriod pt fp on := by rw [gI_lt]; omega
  obtain ⟨a1, a2, a3, a4, a5⟩ := TS_all (w := w) (ring := ring) (ring2 := ring2) ⟨fun _ _ _ => rfl, fun _ _ _ => rfl, h7, hb, hs⟩ (M := T / 32) (by omega) hw0 h9 h10 h11 hon hRP ht 8 (Nat.le_refl _)
  have hRP' := RP_ends (ring := ring2) (w := w) ⟨by rw [h0, nI_toInt (by omega)]; omega, by rw [h0, nI_toInt (by omega)]; omega⟩ hRP
  unfold f_X2_endMajorCycle
  dsimp only
  rw [if_pos hpos]
  unfold f_X7_ends at hRP' ⊢
  dsimp only at hRP' ⊢
  generalize (it_X7_ends_7 w ring2 8).1 = v at *
  generalize it_X2_endMajorCycle_15 dr bits ring slips pt fp on temps (nI (T / 32)) 8 = c at *
  have v8 : v 8 = ot := by rw [a1 8 (by decide) (by decide)]; exact h8
  have v9 : v 9 = pt := by rw [a1 9 (by decide) (by decide)]; exact h9
  obtain ⟨d1, d2, d3, d4⟩ := drift_rel (v := v) (temps := temps) v8 v9 (by have := hRP.1; rw [h8] at this; exact this) (by have := hRP.2.1; rw [h9] at this; exact this) (fun t q => ⟨by rw [a1 _ (by omega) (by omega)]; exact (ht t q).1, (ht t q).2⟩)
  refine ⟨⟨⟨?_, ?_, ?_, d1, ?_, ?_⟩, d3, fun t q => ?_, a4.frame (fun k q => ?_), hRP', hon⟩, fun j q => ?_⟩
  · rw [d4 0 (by decide) (fun c _ => by omega), a1 0 (by decide) (by decide)]; exact h0
  · rw [d4 7 (by decide) (fun c _ => by omega)]; exact a3
  · rw [d4 8 (by decide) (fun c _ => by omega)]; exact v8
  · rw [d4 10 (by decide) (fun c _ => by omega), a1 10 (by decide) (by decide)]; exact h10
  · rw [d4 11 (by decide) (fun c _ => by omega), a1 11 (by decide) (by decide)]; exact h11
  · rw [d4 (22 + t) (by omega) (fun c _ => by omega)]; exact a5 t q
  · exact d4 (414 + k) (by omega) (fun c _ => by omega)
  · rw [d4 j (by omega) (fun c _ => by omega)]
    by_cases z : j < 22
    · exact a1 j z (by omega)
    · exact a2 j (by omega) (by omega)
theorem RW_tick {T : Nat} {dr pt ot fp on : Int32} {bits slips temps w : Nat → Int32} (h : RW T dr bits slips pt ot fp on temps w) : RW (T + 1) dr bits slips pt ot fp on temps (upd w 0 (w 0 + 1)) := by
  obtain ⟨⟨h0, h7, h8, h9, h10, h11⟩, ht, hs, hb, hRP, hon⟩ := h
  refine ⟨⟨by rw [pus, h0, nI_1], h7, h8, h9, h10, h11⟩, fun t q => ⟨by rw [pu (by omega)]; exact (ht t q).1, (ht t q).2⟩, fun t q => by rw [pu (by omega)]; exact hs t q, hb.low (by decide), hRP, hon⟩
theorem passes_rel {T : Nat} {dr pt ot fp on : Int32} {bits ring ring2 slips temps w : Nat → Int32} (h : RW T dr bits slips pt ot fp on temps w) :
    ∀ n, T + n < 190000000 → RW (T + n) (it_X2_pass_17 T dr bits ring slips pt ot fp on temps ((T + n) / 32 - T / 32)).2.2.2.2.1 (it_X2_pass_17 T dr bits ring slips pt ot fp on temps ((T + n) / 32 - T / 32)).1 (it_X2_pass_17 T dr bits ring slips pt ot fp on temps ((T + n) / 32 - T / 32)).2.2.1 (it_X2_pass_17 T dr bits ring slips pt ot fp on temps ((T + n) / 32 - T / 32)).2.2.2.2.2 ot fp on (it_X2_pass_17 T dr bits ring slips pt ot fp on temps ((T + n) / 32 - T / 32)).2.2.2.1 (it_X7_passes_2 w ring2 n).1 ∧ Fr w (it_X7_passes_2 w ring2 n).1 := by
  intro n
  induction n with
  | zero =>
    intro _
    have e : (T + 0) / 32 - T / 32 = 0 := by omega
    rw [e]
    exact ⟨h, Fr.rf w⟩
  | succ n ih =>
    intro hn
    obtain ⟨i1, i2⟩ := ih (by omega)
    have i3 := RW_tick i1
    have i4 : Fr w (upd (it_X7_passes_2 w ring2 n).1 0 ((it_X7_passes_2 w ring2 n).1 0 + 1)) := fun j q => by rw [pu (by omega)]; exact i2 j q
    have z0 : upd (it_X7_passes_2 w ring2 n).1 0 ((it_X7_passes_2 w ring2 n).1 0 + 1) 0 = nI (T + n + 1) := i3.1.1
    have e1 : T + (n + 1) = T + n + 1 := by omega
    rw [e1]
    show RW (T + n + 1) _ _ _ _ ot fp on _ (st_X7_passes_2 (it_X7_passes_2 w ring2 n).1 (it_X7_passes_2 w ring2 n).2).1 ∧ Fr w (st_X7_passes_2 (it_X7_passes_2 w ring2 n).1 (it_X7_passes_2 w ring2 n).2).1
    unfold st_X7_passes_2
    rw [z0, mod32_nI (by omega)]
    by_cases c : (T + n + 1) % 32 = 0
    · have c2 : nI ((T + n + 1) % 32) = 0 := by rw [c]; rfl
      have e2 : (T + n + 1) / 32 - T / 32 = ((T + n) / 32 - T / 32) + 1 := by omega
      rw [if_pos c2, e2]
      show RW (T + n + 1) (st_X2_pass_17 T ot fp on _ _ _ _ _ _ _).2.2.2.2.1 (st_X2_pass_17 T ot fp on _ _ _ _ _ _ _).1 (st_X2_pass_17 T ot fp on _ _ _ _ _ _ _).2.2.1 (st_X2_pass_17 T ot fp on _ _ _ _ _ _ _).2.2.2.2.2 ot fp on (st_X2_pass_17 T ot fp on _ _ _ _ _ _ _).2.2.2.1 _ ∧ _
      unfold st_X2_pass_17
      dsimp only
      have e3 : T / 32 + 1 + ((T + n) / 32 - T / 32) = (T + n + 1) / 32 := by omega
      rw [e3]
      obtain ⟨r1, r2⟩ := RW_ends (ring := (it_X2_pass_17 T dr bits ring slips pt ot fp on temps ((T + n) / 32 - T / 32)).2.1) (ring2 := (it_X7_passes_2 w ring2 n).2) i3 (by omega) c
      exact ⟨r1, i4.tr r2⟩
    · have c2 : ¬ nI ((T + n + 1) % 32) = 0 := nI_ne0 (by omega) (by omega)
      have e2 : (T + n + 1) / 32 - T / 32 = (T + n) / 32 - T / 32 := by omega
      rw [if_neg c2, e2]
      exact ⟨i3, i4⟩
/-- the passing of n minor cycles -/
theorem RW_pass {T n : Nat} {dr pt ot fp on : Int32} {bits ring ring2 slips temps w : Nat → Int32} (h : RW T dr bits slips pt ot fp on temps w) (hn : T + n < 190000000) :
    RW (T + n) (f_X2_pass T dr bits ring slips pt ot fp on temps n).1 (f_X2_pass T dr bits ring slips pt ot fp on temps n).2.1 (f_X2_pass T dr bits ring slips pt ot fp on temps n).2.2.2.1 (f_X2_pass T dr bits ring slips pt ot fp on temps n).2.2.2.2.1 ot fp on (f_X2_pass T dr bits ring slips pt ot fp on temps n).2.2.2.2.2 (f_X7_passes w ring2 n).1 ∧ Fr w (f_X7_passes w ring2 n).1 := passes_rel h n hn
