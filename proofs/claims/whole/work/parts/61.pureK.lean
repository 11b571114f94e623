/-! PURE K: the calls of the law one by one (the computer) -/
theorem RW.agree {T : Nat} {dr pt ot fp on : Int32} {bits slips temps w v : Nat → Int32} (h : RW T dr bits slips pt ot fp on temps w) (hv : ∀ j, j < 670 → v j = w j) : RW T dr bits slips pt ot fp on temps v := by
  obtain ⟨⟨h0, h7, h8, h9, h10, h11⟩, ht, hs, hb, hRP, hon⟩ := h
  refine ⟨⟨?_, ?_, ?_, ?_, ?_, ?_⟩, fun t q => ⟨?_, (ht t q).2⟩, fun t q => ?_, hb.frame (fun k q => hv _ (by omega)), ⟨?_, ?_, ?_⟩, hon⟩
  · rw [hv 0 (by omega)]; exact h0
  · rw [hv 7 (by omega)]; exact h7
  · rw [hv 8 (by omega)]; exact h8
  · rw [hv 9 (by omega)]; exact h9
  · rw [hv 10 (by omega)]; exact h10
  · rw [hv 11 (by omega)]; exact h11
  · rw [hv _ (by omega)]; exact (ht t q).1
  · rw [hv _ (by omega)]; exact hs t q
  · rw [hv 8 (by omega)]; exact hRP.1
  · rw [hv 9 (by omega)]; exact hRP.2.1
  · rw [hv 11 (by omega)]; exact hRP.2.2
theorem RW.cong {T : Nat} {dr pt ot fp on : Int32} {bits slips temps bits2 slips2 temps2 w : Nat → Int32} (h : RW T dr bits slips pt ot fp on temps w) (hb2 : ∀ k, k < 256 → bits2 k = bits k) (hs2 : ∀ t, t < 8 → slips2 t = slips t) (ht2 : ∀ t, t < 8 → temps2 t = temps t) : RW T dr bits2 slips2 pt ot fp on temps2 w := by
  obtain ⟨h0, ht, hs, hb, hr⟩ := h
  exact ⟨h0, fun t q => by rw [ht2 t q]; exact ht t q, fun t q => by rw [hs2 t q]; exact hs t q, fun k q => by rw [hb2 k q]; exact hb k q, hr⟩
theorem RQ.cong {b : Nat} {f l : Int32} {ring ring2 w : Nat → Int32} (h : RQ b f l ring w) (hr : ∀ i, i < 64 → ring2 i = ring i) : RQ b f l ring2 w := by
  obtain ⟨F, L, h1, h2, h3, h4, h5⟩ := h
  exact ⟨F, L, h1, h2, h3, h4, fun i hi => by rw [hr _ (Nat.mod_lt _ (by decide))]; exact h5 i hi⟩
theorem RR.cong {et wt sta he ac ov fi li fo lo : Int32} {rin rout cnt rin2 rout2 cnt2 w : Nat → Int32} (h : RR et wt sta he ac ov fi li rin fo lo rout cnt w) (hi : ∀ i, i < 64 → rin2 i = rin i) (ho : ∀ i, i < 64 → rout2 i = rout i) (hc : ∀ k, k < 256 → cnt2 k = cnt k) : RR et wt sta he ac ov fi li rin2 fo lo rout2 cnt2 w := by
  obtain ⟨a, b, c, d, e⟩ := h
  exact ⟨a, fun k q => by rw [hc k q]; exact b k q, c.cong hi, d.cong ho, e⟩
theorem cpy_at {n j : Nat} {f g : Nat → Int32} (h : j < n) : f_X6_copyRow n f g j = f j := sb_cpy0 h
section CRk
variable {T : Nat} {tm et wt sta he ac ov dr pt ot fp on fi li fo lo : Int32} {bits slips temps rin rout cnt w ring ring2 : Nat → Int32}
theorem CR.agree {v : Nat → Int32} (h : CR T tm et wt sta he ac ov dr bits slips pt ot fp on temps fi li rin fo lo rout cnt w) (hv : ∀ j, j < 670 → v j = w j) : CR T tm et wt sta he ac ov dr bits slips pt ot fp on temps fi li rin fo lo rout cnt v := ⟨h.1, h.2.1.agree hv, h.2.2.frame (fun j hj => hv j (by omega))⟩
theorem CR.copy {b2 s2 t2 i2 o2 c2 : Nat → Int32} (h : CR T tm et wt sta he ac ov dr bits slips pt ot fp on temps fi li rin fo lo rout cnt w) : CR T tm et wt sta he ac ov dr (f_X6_copyRow 256 bits b2) (f_X6_copyRow 8 slips s2) pt ot fp on (f_X6_copyRow 8 temps t2) fi li (f_X6_copyRow 64 rin i2) fo lo (f_X6_copyRow 64 rout o2) (f_X6_copyRow 256 cnt c2) w :=
  ⟨h.1, h.2.1.cong (fun _ => cpy_at) (fun _ => cpy_at) (fun _ => cpy_at), h.2.2.cong (fun _ => cpy_at) (fun _ => cpy_at) (fun _ => cpy_at)⟩
theorem cs_start (h : CR T tm et wt sta he ac ov dr bits slips pt ot fp on temps fi li rin fo lo rout cnt w) (p q : Int32) :
    k1 (th_X6_start p q) = (f_X7_start w p q).1 ∧ CR T tm et wt (f_X6_start sta he p q).1 (f_X6_start sta he p q).2 ac ov dr bits slips pt ot fp on temps fi li rin fo lo rout cnt (f_X7_start w p q).2 := by
  unfold th_X6_start f_X6_start f_X7_start
  rw [rl_iff]
  by_cases c : f_X7_isLocation p q = 0
  · rw [if_pos c, if_pos c, if_neg (Option.some_ne_none _), if_neg (Option.some_ne_none _)]
    exact ⟨rfl, h⟩
  · rw [if_neg c, if_neg c, if_pos rfl, if_pos rfl]
    have hr := loc_ix (loc_of c)
    unfold f_X2_makeReadyAt f_X6_locationOf
    dsimp only
    obtain ⟨g0, hW, ⟨⟨a1, a2, a3, a4, a5, a6, a7, a8⟩, b, c9, d, e⟩⟩ := h
    refine ⟨rfl, g0, hW.frame (fun j hj => by rw [pu (by omega), pu (by omega)]), ⟨a1, a2, pus, ?_, a5, a6, a7, a8⟩, fun k hk => by rw [pu (by omega), pu (by omega)]; exact b k hk, c9.frame (fun i hi => by rw [pu (by omega), pu (by omega)]), d.frame (fun i hi => by rw [pu (by omega), pu (by omega)]), hr, e.2⟩
    rw [pu (by decide), pus]
theorem cs_idle (h : CR T tm et wt sta he ac ov dr bits slips pt ot fp on temps fi li rin fo lo rout cnt w) (hT : T < 180000000) (p : Int32) :
    k1 (th_X6_idle tm dr bits ring slips pt ot fp on temps p) = (f_X7_idle w ring2 p).2.1 ∧ (th_X6_idle tm dr bits ring slips pt ot fp on temps p = none → (f_X6_idle tm dr bits ring slips pt ot fp on temps p).1 = (f_X7_idle w ring2 p).1) ∧
    ∃ T', T ≤ T' ∧ T' ≤ T + 49500 ∧ CR T' (f_X6_idle tm dr bits ring slips pt ot fp on temps p).2.1 et wt sta he ac ov (f_X6_idle tm dr bits ring slips pt ot fp on temps p).2.2.1 (f_X6_idle tm dr bits ring slips pt ot fp on temps p).2.2.2.1 (f_X6_idle tm dr bits ring slips pt ot fp on temps p).2.2.2.2.2.1 (f_X6_idle tm dr bits ring slips pt ot fp on temps p).2.2.2.2.2.2.1 ot fp on (f_X6_idle tm dr bits ring slips pt ot fp on temps p).2.2.2.2.2.2.2 fi li rin fo lo rout cnt (f_X7_idle w ring2 p).2.2.1 := by
  unfold th_X6_idle f_X6_idle f_X7_idle
  rw [rc3200_iff]
  by_cases c : f_X7_in (Int32.toInt64 p) 1 3200 = 0
  · rw [if_pos c, if_pos c, if_neg (Option.some_ne_none _), if_neg (Option.some_ne_none _)]
    exact ⟨rfl, fun z => absurd z (Option.some_ne_none _), T, Nat.le_refl _, by omega, h⟩
  · rw [if_neg c, if_neg c, if_pos rfl, if_pos rfl]
    have hq := in_ofI (a := 1) (b := 3200) c (by decide) (by decide)
    obtain ⟨n, hn, rfl⟩ := of_rng (x := p) (N := 3201) (by decide) (by omega)
    obtain ⟨rfl, hW, hR⟩ := h
    dsimp only
    rw [nI_clamp (n := T) (by omega), nI_clamp (n := n) (by omega)]
    obtain ⟨r1, r2⟩ := pass_rel (ring := ring) (ring2 := ring2) (n := n) hW hR (by omega) rfl
    exact ⟨rfl, fun _ => r1.1.1.symm, T + n, by omega, by omega, rfl, r1, r2⟩
theorem why_iff (h : w 4 = sta) (p : Int32) : f_X7_whyNot w p = k2 sIA (if th_X6_requireCount p 500 = none then th_X6_requireReady sta else th_X6_requireCount p 500) := by
  unfold f_X7_whyNot th_X6_requireReady
  rw [rc500_iff, h]
  by_cases c : f_X7_in (Int32.toInt64 p) 1 500 = 0
  · rw [if_pos c, if_pos c, if_neg (Option.some_ne_none _), k2_1]
  · rw [if_neg c, if_neg c, if_pos rfl]
    by_cases d : sta = 0
    · rw [if_pos d, if_pos d, k2_n]
    · rw [if_neg d, if_neg d, k2_2 sSA]
theorem cs_run (h : CR T tm et wt sta he ac ov dr bits slips pt ot fp on temps fi li rin fo lo rout cnt w) (hT : T < 180000000) (p : Int32) :
    let z := f_X6_run et wt tm sta he ac ov dr bits ring slips pt ot fp on temps fi li rin fo lo rout cnt p
    k2 sIA (th_X6_run et wt tm sta he ac ov dr bits ring slips pt ot fp on temps fi li rin fo lo rout cnt p) = (f_X7_run w ring2 p).2.1 ∧ (th_X6_run et wt tm sta he ac ov dr bits ring slips pt ot fp on temps fi li rin fo lo rout cnt p = none → z.1 = (f_X7_run w ring2 p).1) ∧
    ∃ T', T ≤ T' ∧ T' ≤ T + 49500 ∧ CR T' z.2.2.2.1 z.2.1 z.2.2.1 z.2.2.2.2.1 z.2.2.2.2.2.1 z.2.2.2.2.2.2.1 z.2.2.2.2.2.2.2.1 z.2.2.2.2.2.2.2.2.1 z.2.2.2.2.2.2.2.2.2.1 z.2.2.2.2.2.2.2.2.2.2.2.1 z.2.2.2.2.2.2.2.2.2.2.2.2.1 ot fp on z.2.2.2.2.2.2.2.2.2.2.2.2.2.1 z.2.2.2.2.2.2.2.2.2.2.2.2.2.2.1 z.2.2.2.2.2.2.2.2.2.2.2.2.2.2.2.1 rin fo z.2.2.2.2.2.2.2.2.2.2.2.2.2.2.2.2.1 z.2.2.2.2.2.2.2.2.2.2.2.2.2.2.2.2.2.1 z.2.2.2.2.2.2.2.2.2.2.2.2.2.2.2.2.2.2 (f_X7_run w ring2 p).2.2.1 := by
  have hwy := why_iff (w := w) (sta := sta) h.2.2.1.2.2.2.1 p
  unfold th_X6_run f_X6_run f_X7_run
  rw [hwy, rc500_iff]
  unfold th_X6_requireReady
  by_cases c : f_X7_in (Int32.toInt64 p) 1 500 = 0
  · rw [if_pos c, if_neg (Option.some_ne_none _), if_neg (Option.some_ne_none _), if_neg (Option.some_ne_none _), k2_1, if_neg (by decide : ¬ (1 : Int32) ≤ 0)]
    exact ⟨rfl, fun z => absurd z (Option.some_ne_none _), T, Nat.le_refl _, by omega, h⟩
  · rw [if_neg c, if_pos rfl, if_pos rfl, if_pos rfl]
    by_cases d : sta = 0
    · rw [if_pos d, if_pos rfl, if_pos rfl, k2_n, if_pos (Int32.le_refl _)]
      have hq := in_ofI (a := 1) (b := 500) c (by decide) (by decide)
      obtain ⟨rfl, hW, hR⟩ := h
      have hu := runs_rel (p0 := p) (ring := ring) (ring2 := ring2) (by omega) hW hR hT
      dsimp only
      generalize f_X2_executeUpTo et wt (nI T) sta he ac ov dr bits ring slips pt ot fp on temps fi li rin fo lo rout cnt p = z at hu ⊢
      obtain ⟨r1, T', r2, r3, r4, r5, r6⟩ := hu
      exact ⟨rfl, fun _ => r1, T', r3, by omega, r2, r5, r6⟩
    · rw [if_neg d, if_neg (Option.some_ne_none _), if_neg (Option.some_ne_none _), k2_2 sSA, if_neg (by decide : ¬ (2 : Int32) ≤ 0)]
      exact ⟨rfl, fun z => absurd z (Option.some_ne_none _), T, Nat.le_refl _, by omega, h⟩
/-! to put aside and to take back -/
theorem aside_at {aside : Nat → Int32} : ∀ n, ∀ j, j < n → it_X7_putsAside_2 w aside n j = w j := by
  intro n
  induction n with
  | zero => intro j hj; omega
  | succ n ih =>
    intro j hj
    show st_X7_putsAside_2 w n (it_X7_putsAside_2 w aside n) j = w j
    unfold st_X7_putsAside_2
    by_cases e : j = n
    · subst e; rw [pus]
    · rw [pu e]; exact ih j (by omega)
theorem back_at {aside v : Nat → Int32} : ∀ n, ∀ j, j < n → it_X7_takesBack_2 v aside n j = aside j := by
  intro n
  induction n with
  | zero => intro j hj; omega
  | succ n ih =>
    intro j hj
    show st_X7_takesBack_2 aside n (it_X7_takesBack_2 v aside n) j = aside j
    unfold st_X7_takesBack_2
    by_cases e : j = n
    · subst e; rw [pus]
    · rw [pu e]; exact ih j (by omega)
theorem back_aside {aside v : Nat → Int32} {j : Nat} (hj : j < 670) : f_X7_takesBack v (f_X7_putsAside w aside) j = w j := by
  unfold f_X7_takesBack f_X7_putsAside
  rw [back_at 670 j hj, aside_at 670 j hj]
theorem safe_it {z : Nat → Int32} {P : Int32} (hP : f_X7_periodNow z = P) (ht : ∀ t, t < 8 → z (14 + t) = temps t) : ∀ n, n ≤ 8 → (it_X7_areSafe_4 z n = 0 ↔ ∃ k, k < n ∧ f_X6_isSafe (temps k) P = 0) := by
  intro n
  induction n with
  | zero =>
    intro _
    constructor
    · intro q; exact absurd (show (1 : Int32) = 0 from q) (by decide)
    · intro ⟨k, hk, _⟩; omega
  | succ n ih =>
    intro hn
    have i := ih (by omega)
    have e : it_X7_areSafe_4 z (n + 1) = if it_X7_areSafe_4 z n = 0 then 0 else if f_X6_isSafe (temps n) P = 0 then 0 else 1 := by
      show st_X7_areSafe_4 z n (it_X7_areSafe_4 z n) = _
      unfold st_X7_areSafe_4
      rw [ix14 (by omega), ht n (by omega), safe_eq hP]
    rw [e]
    by_cases c : it_X7_areSafe_4 z n = 0
    · rw [if_pos c]
      obtain ⟨k, hk, q⟩ := i.mp c
      exact ⟨fun _ => ⟨k, by omega, q⟩, fun _ => rfl⟩
    · rw [if_neg c]
      by_cases d : f_X6_isSafe (temps n) P = 0
      · rw [if_pos d]
        exact ⟨fun _ => ⟨n, by omega, d⟩, fun _ => rfl⟩
      · rw [if_neg d]
        constructor
        · intro q; exact absurd q (by decide)
        · intro ⟨k, hk, q⟩
          by_cases e9 : k = n
          · subst e9; exact absurd q d
          · exact absurd (i.mpr ⟨k, by omega, q⟩) c
theorem safe_wl : ∀ n k, k + n ≤ 8 → (wl_X1_allTanksSafe pt fp on temps n k = 0 ↔ ∃ j, k ≤ j ∧ j < k + n ∧ f_X6_isSafe (temps j) (f_X1_clockPeriod pt fp on) = 0) := by
  intro n
  induction n with
  | zero =>
    intro k _
    constructor
    · intro q; exact absurd (show (1 : Int32) = 0 from q) (by decide)
    · intro ⟨j, h1, h2, _⟩; omega
  | succ n ih =>
    intro k hk
    have i := ih (k + 1) (by omega)
    unfold wl_X1_allTanksSafe
    rw [temp_nI temps (by omega)]
    by_cases c : f_X6_isSafe (temps k) (f_X1_clockPeriod pt fp on) = 0
    · rw [if_pos c]
      exact ⟨fun _ => ⟨k, by omega, by omega, c⟩, fun _ => rfl⟩
    · rw [if_neg c, i]
      constructor
      · intro ⟨j, h1, h2, h3⟩; exact ⟨j, by omega, by omega, h3⟩
      · intro ⟨j, h1, h2, h3⟩
        by_cases e : j = k
        · subst e; exact absurd h3 c
        · exact ⟨j, by omega, by omega, h3⟩
theorem safe_all {z : Nat → Int32} (hP : f_X7_periodNow z = f_X1_clockPeriod pt fp on) (ht : ∀ t, t < 8 → z (14 + t) = temps t) : f_X7_areSafe z = 0 ↔ f_X1_allTanksSafe pt fp on temps = 0 := by
  unfold f_X7_areSafe f_X1_allTanksSafe
  rw [safe_it hP ht 8 (Nat.le_refl _), safe_wl 8 0 (by decide)]
  constructor
  · intro ⟨k, h1, h2⟩; exact ⟨k, by omega, by omega, h2⟩
  · intro ⟨k, h0, h1, h2⟩; exact ⟨k, by omega, h2⟩
theorem unsafe_it {aside : Nat → Int32} (hon : g01 on) (ho : 0 ≤ ot.toInt ∧ ot.toInt ≤ 1000) : ∀ n k, k + n = 201 → ∀ (z tq : Nat → Int32) (q : Int32), z 8 = ot → z 9 = q → z 10 = on → z 11 = fp → (0 ≤ q.toInt ∧ q.toInt ≤ 1000) → (∀ t, t < 8 → z (14 + t) = tq t ∧ 0 ≤ (tq t).toInt ∧ (tq t).toInt ≤ 1000) →
    (wl_X6_unsafeAfter ot fp on n k tq q).1 = (wl_X7_unsafeAfter w aside n k z).1 ∧ (wl_X7_unsafeAfter w aside n k z).2.1 = 0 ∧ ∀ j, j < 670 → (wl_X7_unsafeAfter w aside n k z).2.2.1 j = w j := by
  intro n
  induction n with
  | zero =>
    intro k hk z tq q h8 h9 h10 h11 hq ht
    unfold wl_X6_unsafeAfter wl_X7_unsafeAfter
    rw [if_neg (by decide : ¬ nI 201 ≤ 200)]
    exact ⟨rfl, rfl, fun j hj => back_aside hj⟩
  | succ n ih =>
    intro k hk z tq q h8 h9 h10 h11 hq ht
    have hs := safe_all (z := z) (temps := tq) (per_eq h9 h10 h11 hon) (fun t h => (ht t h).1)
    unfold wl_X6_unsafeAfter wl_X7_unsafeAfter
    by_cases c : f_X1_allTanksSafe q fp on tq = 0
    · have e200 : nI k ≤ 200 := nI_le (a := k) (b := 200) (by omega) (by decide)
      rw [if_pos c, if_pos (hs.mpr c), if_pos e200]
      exact ⟨rfl, rfl, fun j hj => back_aside hj⟩
    · rw [if_neg c, if_neg (fun z9 => c (hs.mp z9))]
      obtain ⟨d1, d2, d3, d4⟩ := drift_rel (v := z) (temps := tq) h8 h9 ho hq ht
      exact ih (k + 1) (by omega) _ _ _ (by rw [d4 8 (by decide) (fun c _ => by omega)]; exact h8) d1 (by rw [d4 10 (by decide) (fun c _ => by omega)]; exact h10) (by rw [d4 11 (by decide) (fun c _ => by omega)]; exact h11) d2 d3
theorem cs_unsafeAfter {aside tempsq : Nat → Int32} (h : CR T tm et wt sta he ac ov dr bits slips pt ot fp on temps fi li rin fo lo rout cnt w) :
    (f_X6_unsafeAfter pt ot fp on temps tempsq).1 = (f_X7_unsafeAfter w aside).1 ∧ (f_X7_unsafeAfter w aside).2.1 = 0 ∧ CR T tm et wt sta he ac ov dr bits slips pt ot fp on temps fi li rin fo lo rout cnt (f_X7_unsafeAfter w aside).2.2.1 := by
  obtain ⟨⟨h0, h7, h8, h9, h10, h11⟩, ht, hs, hb, hRP, hon⟩ := h.2.1
  have k8 := hRP.1
  have k9 := hRP.2.1
  rw [h8] at k8
  rw [h9] at k9
  unfold f_X6_unsafeAfter f_X7_unsafeAfter
  obtain ⟨r1, r2, r3⟩ := unsafe_it (w := w) (aside := aside) hon k8 201 0 (by decide) w (f_X6_copyRow 8 temps tempsq) pt h8 h9 h10 h11 k9 (fun t q => by rw [cpy_at q]; exact ht t q)
  exact ⟨r1, r2, h.agree r3⟩
theorem cs_offerInput (h : CR T tm et wt sta he ac ov dr bits slips pt ot fp on temps fi li rin fo lo rout cnt w) (p : Int32) :
    k2 sIA (th_X6_offerInput sta li p) = (f_X7_offerInput w p).2.1 ∧ (th_X6_offerInput sta li p = none → (f_X6_offerInput sta fi li rin p).1 = (f_X7_offerInput w p).1) ∧ CR T tm et wt (f_X6_offerInput sta fi li rin p).2.1 he ac ov dr bits slips pt ot fp on temps fi (f_X6_offerInput sta fi li rin p).2.2.1 (f_X6_offerInput sta fi li rin p).2.2.2 fo lo rout cnt (f_X7_offerInput w p).2.2 := by
  have hcr := h
  obtain ⟨g0, hW, ⟨⟨a1, a2, a3, a4, a5, a6, a7, a8⟩, b, c9, d, e⟩⟩ := h
  obtain ⟨L, hL, eL⟩ : ∃ L, L ≤ 64 ∧ li = nI L := by obtain ⟨F, L, q1, q2, q3, q4, -⟩ := c9; exact ⟨L, q2, q4⟩
  have hf := full_iff hL
  rw [← eL] at hf
  unfold th_X6_offerInput f_X6_offerInput f_X7_offerInput
  rw [rw_iff]
  by_cases c : f_X7_in (Int32.toInt64 p) (-524288) 524287 = 0
  · rw [if_pos c, if_pos c, if_neg (Option.some_ne_none _), if_neg (Option.some_ne_none _), k2_1]
    exact ⟨rfl, fun z => absurd z (Option.some_ne_none _), hcr⟩
  · rw [if_neg c, if_neg c, if_pos rfl, if_pos rfl]
    have hq := in_ofI (a := -524288) (b := 524287) c (by decide) (by decide)
    by_cases j : f_X4_isFull li = 0
    · have j2 : ¬ w 12 = 64 := fun q => hf.2.mp (a7.symm.trans q) (hf.1.mp j)
      rw [if_pos j, if_pos j, if_neg j2]
      obtain ⟨p1, p2⟩ := c9.push (by decide) j (x := p) ⟨by omega, by omega⟩
      have l30 : (30 : Int32) = nI 30 := rfl
      rw [a7, l30]
      have v12 : upd w (Int32.toNatClampNeg (nI 30 + li)) p 12 = li := by rw [p2 12 (fun i _ => by omega)]; exact a7
      have v4 : upd (upd w (Int32.toNatClampNeg (nI 30 + li)) p) 12 ((upd w (Int32.toNatClampNeg (nI 30 + li)) p) 12 + 1) 4 = sta := by rw [pu (by decide), p2 4 (fun i _ => by omega)]; exact a4
      rw [v4, v12]
      have hne : ∀ x j9, j9 ≠ 12 → j9 ≠ 4 → (∀ i, i < 64 → j9 ≠ 30 + i) → upd (upd (upd w (Int32.toNatClampNeg (nI 30 + li)) p) 12 (li + 1)) 4 x j9 = w j9 := fun x j9 q1 q2 q3 => by rw [pu q2, pu q1]; exact p2 j9 q3
      have hall : ∀ x, CR T tm et wt x he ac ov dr bits slips pt ot fp on temps fi (f_X4_addLast fi li rin p).1 (f_X4_addLast fi li rin p).2 fo lo rout cnt (upd (upd (upd w (Int32.toNatClampNeg (nI 30 + li)) p) 12 (li + 1)) 4 x) := fun x => by
        refine ⟨g0, hW.frame (fun j9 hj => hne x j9 (by omega) (by omega) (fun i _ => by omega)), ⟨?_, ?_, ?_, pus, ?_, ?_, ?_, ?_⟩, fun k hk => ?_, p1.frame (fun i _ => by rw [pu (by omega), pu (by omega)]), d.frame (fun i _ => hne x _ (by omega) (by omega) (fun i _ => by omega)), e⟩
        · rw [hne x 1 (by decide) (by decide) (fun i _ => by omega)]; exact a1
        · rw [hne x 2 (by decide) (by decide) (fun i _ => by omega)]; exact a2
        · rw [hne x 3 (by decide) (by decide) (fun i _ => by omega)]; exact a3
        · rw [hne x 5 (by decide) (by decide) (fun i _ => by omega)]; exact a5
        · rw [hne x 6 (by decide) (by decide) (fun i _ => by omega)]; exact a6
        · rw [pu (by decide), pus]; rfl
        · rw [hne x 13 (by decide) (by decide) (fun i _ => by omega)]; exact a8
        · rw [hne x _ (by omega) (by omega) (fun i _ => by omega)]; exact b k hk
      by_cases s2 : sta = 2
      · rw [if_pos s2, if_pos s2, if_pos s2, k2_n]
        refine ⟨rfl, fun _ => ?_, hall 0⟩
        dsimp only
        rw [pu (by decide), pus]
        rfl
      · rw [if_neg s2, if_neg s2, if_neg s2, k2_n]
        refine ⟨rfl, fun _ => ?_, hall sta⟩
        dsimp only
        rw [pu (by decide), pus]
        rfl
    · have j2 : w 12 = 64 := a7.trans (hf.2.mpr (fun q => j (hf.1.mpr q)))
      rw [if_neg j, if_neg j, if_pos j2, k2_2 sSA]
      exact ⟨rfl, fun z => absurd z (Option.some_ne_none _), hcr⟩
theorem cs_takeOutput (h : CR T tm et wt sta he ac ov dr bits slips pt ot fp on temps fi li rin fo lo rout cnt w) :
    k1 (th_X6_takeOutput sta lo) = (f_X7_takeOutput w).2.1 ∧ (th_X6_takeOutput sta lo = none → (f_X6_takeOutput sta fo lo rout).1 = (f_X7_takeOutput w).1) ∧ CR T tm et wt (f_X6_takeOutput sta fo lo rout).2.1 he ac ov dr bits slips pt ot fp on temps fi li rin (f_X6_takeOutput sta fo lo rout).2.2.1 (f_X6_takeOutput sta fo lo rout).2.2.2 rout cnt (f_X7_takeOutput w).2.2 := by
  have hcr := h
  obtain ⟨g0, hW, ⟨⟨a1, a2, a3, a4, a5, a6, a7, a8⟩, b, c9, d, e⟩⟩ := h
  unfold th_X6_takeOutput f_X6_takeOutput f_X7_takeOutput
  by_cases c : lo = 0
  · rw [if_pos c, if_pos c, if_pos (a8.trans c)]
    exact ⟨rfl, fun z => absurd z (Option.some_ne_none _), hcr⟩
  · rw [if_neg c, if_neg c, if_neg (fun q => c (a8.symm.trans q))]
    obtain ⟨L, hL, eL⟩ : ∃ L, L ≤ 64 ∧ lo = nI L := by obtain ⟨F, L, q1, q2, q3, q4, -⟩ := d; exact ⟨L, q2, q4⟩
    have h13 : (w 13).toNatClampNeg = L := by rw [a8, eL, nI_clamp (by omega)]
    have hi := takeOut_it (w := w) (L - 1) (by omega)
    obtain ⟨p1, p2, p3⟩ := d.pop c (v := it_X7_takeOutput_42 w (L - 1)) (fun i hi9 => by
      rw [eL, nI_clamp (by omega)] at hi9
      rw [hi, if_pos (by omega)])
    rw [h13]
    have hne : ∀ j, j ≠ 13 → (∀ i, i < 64 → j ≠ 94 + i) → it_X7_takeOutput_42 w (L - 1) j = w j := fun j j13 jq => by
      rw [hi, if_neg (by
        intro q
        exact jq (j - 94) (by omega) (by omega)), pu j13]
    have v4 : it_X7_takeOutput_42 w (L - 1) 4 = sta := by rw [hne 4 (by decide) (fun i _ => by omega)]; exact a4
    rw [v4]
    have hall : ∀ x, CR T tm et wt x he ac ov dr bits slips pt ot fp on temps fi li rin (f_X4_removeFirst fo lo rout).2.1 (f_X4_removeFirst fo lo rout).2.2 rout cnt (upd (it_X7_takeOutput_42 w (L - 1)) 4 x) := fun x => by
      have hn2 : ∀ j, j ≠ 4 → j ≠ 13 → (∀ i, i < 64 → j ≠ 94 + i) → upd (it_X7_takeOutput_42 w (L - 1)) 4 x j = w j := fun j q1 q2 q3 => by rw [pu q1]; exact hne j q2 q3
      refine ⟨g0, hW.frame (fun j9 hj => hn2 j9 (by omega) (by omega) (fun i _ => by omega)), ⟨?_, ?_, ?_, pus, ?_, ?_, ?_, ?_⟩, fun k hk => ?_, c9.frame (fun i _ => hn2 _ (by omega) (by omega) (fun i _ => by omega)), p3.frame (fun i _ => pu (by omega)), e⟩
      · rw [hn2 1 (by decide) (by decide) (fun i _ => by omega)]; exact a1
      · rw [hn2 2 (by decide) (by decide) (fun i _ => by omega)]; exact a2
      · rw [hn2 3 (by decide) (by decide) (fun i _ => by omega)]; exact a3
      · rw [hn2 5 (by decide) (by decide) (fun i _ => by omega)]; exact a5
      · rw [hn2 6 (by decide) (by decide) (fun i _ => by omega)]; exact a6
      · rw [hn2 12 (by decide) (by decide) (fun i _ => by omega)]; exact a7
      · rw [pu (by decide), hi, if_neg (by omega), pus, a8]; rfl
      · rw [hn2 _ (by omega) (by omega) (fun i _ => by omega)]; exact b k hk
    by_cases s3 : sta = 3
    · rw [if_pos s3, if_pos s3, if_pos s3]
      exact ⟨rfl, fun _ => p1, hall 0⟩
    · rw [if_neg s3, if_neg s3, if_neg s3]
      exact ⟨rfl, fun _ => p1, hall sta⟩
theorem cs_executedAt (h : CR T tm et wt sta he ac ov dr bits slips pt ot fp on temps fi li rin fo lo rout cnt w) (p q : Int32) :
    k1 (th_X6_executedAt p q) = (f_X7_executedAt w p q).2 ∧ (th_X6_executedAt p q = none → f_X6_executedAt cnt p q = (f_X7_executedAt w p q).1) := by
  unfold th_X6_executedAt f_X6_executedAt f_X7_executedAt
  rw [rl_iff]
  by_cases c : f_X7_isLocation p q = 0
  · rw [if_pos c, if_pos c, if_neg (Option.some_ne_none _), if_neg (Option.some_ne_none _)]
    exact ⟨rfl, fun z => absurd z (Option.some_ne_none _)⟩
  · rw [if_neg c, if_neg c, if_pos rfl, if_pos rfl]
    obtain ⟨t, k, ht, hk, rfl, rfl⟩ := loc_nat c
    refine ⟨rfl, fun _ => ?_⟩
    unfold f_X2_executedCountAt
    dsimp only
    have e1 : (158 + 32 * nI t) + nI k = nI (158 + (32 * t + k)) := by
      rw [nI_lit32, pk_mul, nI_lit158, nI_add, nI_add]
      congr 1
      omega
    rw [e1, nI_clamp (by omega), locOf_nI, ix255 (by omega), h.2.2.2.1 _ (by omega)]
theorem cs_predictTime {aside bq rq sq tq iq oq cq : Nat → Int32} {etq wtq tmq staq heq acq ovq drq ptq otq fpq onq fiq liq foq loq : Int32} (h : CR T tm et wt sta he ac ov dr bits slips pt ot fp on temps fi li rin fo lo rout cnt w) (hT : T < 180000000) (p : Int32) :
    k2 sIA (th_X6_predictTime et wt tm sta he ac ov dr bits slips pt ot fp on temps fi li rin fo lo rout cnt bq rq sq tq iq oq cq p) = (f_X7_predictTime w aside ring2 p).2.1 ∧ (th_X6_predictTime et wt tm sta he ac ov dr bits slips pt ot fp on temps fi li rin fo lo rout cnt bq rq sq tq iq oq cq p = none → (f_X6_predictTime et wt tm sta he ac ov dr bits slips pt ot fp on temps fi li rin fo lo rout cnt etq wtq tmq staq heq acq ovq drq bq rq sq ptq otq fpq onq tq fiq liq iq foq loq oq cq p).1 = (f_X7_predictTime w aside ring2 p).1) ∧
    CR T tm et wt sta he ac ov dr bits slips pt ot fp on temps fi li rin fo lo rout cnt (f_X7_predictTime w aside ring2 p).2.2.1 := by
  have hwy := why_iff (w := w) (sta := sta) h.2.2.1.2.2.2.1 p
  unfold th_X6_predictTime f_X6_predictTime f_X7_predictTime
  rw [hwy, rc500_iff]
  unfold th_X6_requireReady
  by_cases c : f_X7_in (Int32.toInt64 p) 1 500 = 0
  · rw [if_pos c, if_neg (Option.some_ne_none _), if_neg (Option.some_ne_none _), if_neg (Option.some_ne_none _), k2_1, if_neg (by decide : ¬ (1 : Int32) ≤ 0)]
    exact ⟨rfl, fun z => absurd z (Option.some_ne_none _), h⟩
  · rw [if_neg c, if_pos rfl, if_pos rfl, if_pos rfl]
    by_cases d : sta = 0
    · rw [if_pos d, if_pos rfl, if_pos rfl, k2_n, if_pos (Int32.le_refl _)]
      have hq := in_ofI (a := 1) (b := 500) c (by decide) (by decide)
      have h2 := h.copy (b2 := bq) (s2 := sq) (t2 := tq) (i2 := iq) (o2 := oq) (c2 := cq)
      obtain ⟨e0, hW, hR⟩ := h2
      have hu := runs_rel (p0 := p) (ring := rq) (ring2 := ring2) (by omega) hW hR hT
      rw [← e0] at hu
      dsimp only
      generalize f_X2_executeUpTo et wt tm sta he ac ov dr (f_X6_copyRow 256 bits bq) rq (f_X6_copyRow 8 slips sq) pt ot fp on (f_X6_copyRow 8 temps tq) fi li (f_X6_copyRow 64 rin iq) fo lo (f_X6_copyRow 64 rout oq) (f_X6_copyRow 256 cnt cq) p = z at hu ⊢
      obtain ⟨r1, T', r2, r3, r4, r5, r6⟩ := hu
      refine ⟨rfl, fun _ => ?_, h.agree (fun j hj => back_aside hj)⟩
      rw [r2, r5.1.1, h.1, h.2.1.1.1]
    · rw [if_neg d, if_neg (Option.some_ne_none _), if_neg (Option.some_ne_none _), k2_2 sSA, if_neg (by decide : ¬ (2 : Int32) ≤ 0)]
      exact ⟨rfl, fun z => absurd z (Option.some_ne_none _), h⟩
end CRk
