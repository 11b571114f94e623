/-! PURE I: runs; the checks of arguments; the calls of the law one by one (first part) -/
theorem et_back (e k : Int32) : (e + k) - e = k := by
  rw [Int32.add_comm, Int32.add_sub_cancel]
abbrev tyU : Type := Int32 × Int32 × Int32 × Int32 × Int32 × Int32 × Int32 × Int32 × Int32 × (Nat → Int32) × (Nat → Int32) × (Nat → Int32) × Int32 × (Nat → Int32) × Int32 × Int32 × Int32 × (Nat → Int32) × (Nat → Int32)
theorem up_exit {et0 ot fp on fo : Int32} {rin : Nat → Int32} {n k : Nat} {bits ring slips temps rout cnt : Nat → Int32} {et wt tm sta he ac ov dr pt fi li lo : Int32} (hs : ¬ sta = 0) :
    wl_X2_executeUpTo et0 ot fp on rin fo n k bits ring slips temps rout cnt et wt tm sta he ac ov dr pt fi li lo = ((et - et0), et, wt, tm, sta, he, ac, ov, dr, bits, ring, slips, pt, temps, fi, li, lo, rout, cnt) := by
  cases n with
  | zero => rfl
  | succ n => exact if_neg hs
/-- what a run leaves -/
def UR (T m : Nat) (ot fp on : Int32) (rin : Nat → Int32) (fo : Int32) (z : tyU) (y : Int32 × (Nat → Int32) × (Nat → Int32)) : Prop :=
  z.1 = y.1 ∧ ∃ T' : Nat, z.2.2.2.1 = nI T' ∧ T ≤ T' ∧ T' ≤ T + 99 * m ∧ RW T' z.2.2.2.2.2.2.2.2.1 z.2.2.2.2.2.2.2.2.2.1 z.2.2.2.2.2.2.2.2.2.2.2.1 z.2.2.2.2.2.2.2.2.2.2.2.2.1 ot fp on z.2.2.2.2.2.2.2.2.2.2.2.2.2.1 y.2.1 ∧
    RR z.2.1 z.2.2.1 z.2.2.2.2.1 z.2.2.2.2.2.1 z.2.2.2.2.2.2.1 z.2.2.2.2.2.2.2.1 z.2.2.2.2.2.2.2.2.2.2.2.2.2.2.1 z.2.2.2.2.2.2.2.2.2.2.2.2.2.2.2.1 rin fo z.2.2.2.2.2.2.2.2.2.2.2.2.2.2.2.2.1 z.2.2.2.2.2.2.2.2.2.2.2.2.2.2.2.2.2.1 z.2.2.2.2.2.2.2.2.2.2.2.2.2.2.2.2.2.2 y.2.1
theorem run_ind {P : Nat} {et0 ot fp on fo : Int32} {rin w9 r9 : Nat → Int32} (hP : P < 1000) : ∀ (n k fuel T : Nat) (bits ring slips temps rout cnt z1 z2 : Nat → Int32) (et wt sta he ac ov dr pt fi li lo x3 : Int32), k + n = P → n + 2 ≤ fuel → et = et0 + nI k → ¬ x3 = 0 → RW T dr bits slips pt ot fp on temps z1 → RR et wt sta he ac ov fi li rin fo lo rout cnt z1 → T + 100 * n + 200 < 190000000 →
    UR T n ot fp on rin fo (wl_X2_executeUpTo et0 ot fp on rin fo n k bits ring slips temps rout cnt et wt (nI T) sta he ac ov dr pt fi li lo) (wl_X7_runs w9 r9 (nI P) fuel z1 z2 (nI k) x3) := by
  intro n
  induction n with
  | zero =>
    intro k fuel T bits ring slips temps rout cnt z1 z2 et wt sta he ac ov dr pt fi li lo x3 hk hf he0 hx hW hR hT
    obtain ⟨f, rfl⟩ : ∃ f, fuel = f + 1 := ⟨fuel - 1, by omega⟩
    have hy : wl_X7_runs w9 r9 (nI P) (f + 1) z1 z2 (nI k) x3 = (nI k, z1, z2) := (if_neg hx).trans (if_pos (nI_le (by omega) (by omega)))
    rw [hy]
    refine ⟨?_, T, rfl, Nat.le_refl _, by omega, hW, hR⟩
    show et - et0 = nI k
    rw [he0]
    exact et_back _ _
  | succ n ih =>
    intro k fuel T bits ring slips temps rout cnt z1 z2 et wt sta he ac ov dr pt fi li lo x3 hk hf he0 hx hW hR hT
    obtain ⟨f, rfl⟩ : ∃ f, fuel = f + 1 := ⟨fuel - 1, by omega⟩
    have h4 : z1 4 = sta := hR.1.2.2.2.1
    have hlt : ¬ nI P ≤ nI k := nI_ge (by omega) (by omega)
    by_cases hs : sta = 0
    · have hE := exec_rel (ring := ring) (ring2 := z2) hW hR (by omega)
      have hc : wl_X2_executeUpTo et0 ot fp on rin fo (n + 1) k bits ring slips temps rout cnt et wt (nI T) sta he ac ov dr pt fi li lo = (let t3 := (f_X2_executeNext et wt sta he ac ov T dr bits ring slips pt ot fp on temps fi li rin fo lo rout cnt)
          wl_X2_executeUpTo et0 ot fp on rin fo n (k + 1) t3.2.2.2.2.2.2.2.2.1 t3.2.2.2.2.2.2.2.2.2.1 t3.2.2.2.2.2.2.2.2.2.2.1 t3.2.2.2.2.2.2.2.2.2.2.2.2.1 t3.2.2.2.2.2.2.2.2.2.2.2.2.2.2.2.2.1 t3.2.2.2.2.2.2.2.2.2.2.2.2.2.2.2.2.2 t3.1 t3.2.1 t3.2.2.1 t3.2.2.2.1 t3.2.2.2.2.1 t3.2.2.2.2.2.1 t3.2.2.2.2.2.2.1 t3.2.2.2.2.2.2.2.1 t3.2.2.2.2.2.2.2.2.2.2.2.1 t3.2.2.2.2.2.2.2.2.2.2.2.2.2.1 t3.2.2.2.2.2.2.2.2.2.2.2.2.2.2.1 t3.2.2.2.2.2.2.2.2.2.2.2.2.2.2.2.1) := by
        refine (if_pos hs).trans ?_
        rw [nI_clamp (by omega)]
      rw [hc]
      generalize f_X2_executeNext et wt sta he ac ov T dr bits ring slips pt ot fp on temps fi li rin fo lo rout cnt = z at hE ⊢
      obtain ⟨T', e1, e2, e3, W', R', hor⟩ := hE
      dsimp only
      rw [e1]
      rcases hor with ⟨q1, q2⟩ | ⟨q1, q2, q3⟩
      · have hy : wl_X7_runs w9 r9 (nI P) (f + 1) z1 z2 (nI k) x3 = wl_X7_runs w9 r9 (nI P) f ((f_X7_executes z1 z2).2.1) ((f_X7_executes z1 z2).2.2) (nI (k + 1)) ((f_X7_executes z1 z2).1) := by
          rw [← nI_1]
          exact (if_neg hx).trans ((if_neg hlt).trans ((if_pos (h4.trans hs)).trans (if_neg q1)))
        rw [hy]
        have hr := ih (k + 1) f T' _ z.2.2.2.2.2.2.2.2.2.1 _ _ _ _ _ (f_X7_executes z1 z2).2.2 _ _ _ _ _ _ _ _ _ _ _ _ (by omega) (by omega) (by rw [q2, he0, Int32.add_assoc, nI_1]) q1 W' R' (by omega)
        obtain ⟨r1, T2, r2, r3, r4, r5⟩ := hr
        exact ⟨r1, T2, r2, by omega, by omega, r5⟩
      · have hy : wl_X7_runs w9 r9 (nI P) (f + 1) z1 z2 (nI k) x3 = (nI k, (f_X7_executes z1 z2).2.1, (f_X7_executes z1 z2).2.2) := by
          obtain ⟨g, rfl⟩ : ∃ g, f = g + 1 := ⟨f - 1, by omega⟩
          refine (if_neg hx).trans ((if_neg hlt).trans ((if_pos (h4.trans hs)).trans ((if_pos q1).trans ?_)))
          rw [q1, Int32.add_zero]
          exact if_pos rfl
        rw [hy, up_exit q3]
        refine ⟨?_, T', rfl, e2, by omega, W', R'⟩
        show z.1 - et0 = nI k
        rw [q2, he0]
        exact et_back _ _
    · have hy : wl_X7_runs w9 r9 (nI P) (f + 1) z1 z2 (nI k) x3 = (nI k, z1, z2) := (if_neg hx).trans ((if_neg hlt).trans (if_neg (fun q => hs (h4.symm.trans q))))
      rw [hy, up_exit hs]
      refine ⟨?_, T, rfl, Nat.le_refl _, by omega, hW, hR⟩
      show et - et0 = nI k
      rw [he0]
      exact et_back _ _
theorem runs_rel {T : Nat} {p0 ot fp on fo et wt sta he ac ov dr pt fi li lo : Int32} {rin bits ring slips temps rout cnt w ring2 : Nat → Int32} (hp : 0 ≤ p0.toInt ∧ p0.toInt ≤ 500) (hW : RW T dr bits slips pt ot fp on temps w) (hR : RR et wt sta he ac ov fi li rin fo lo rout cnt w) (hT : T < 180000000) :
    UR T 500 ot fp on rin fo (f_X2_executeUpTo et wt (nI T) sta he ac ov dr bits ring slips pt ot fp on temps fi li rin fo lo rout cnt p0) (f_X7_runs w ring2 p0) := by
  obtain ⟨P, hP, rfl⟩ := of_rng (x := p0) (N := 501) (by decide) (by omega)
  unfold f_X2_executeUpTo f_X7_runs
  rw [nI_clamp (by omega)]
  have h := run_ind (P := P) (et0 := et) (w9 := w) (r9 := ring2) (by omega) P 0 502 T bits ring slips temps rout cnt w ring2 et wt sta he ac ov dr pt fi li lo 1 (by omega) (by omega) (by rw [nI_0, Int32.add_zero]) (by decide) hW hR (by omega)
  obtain ⟨r1, T2, r2, r3, r4, r5⟩ := h
  exact ⟨r1, T2, r2, r3, by omega, r5⟩
/-! the checks of arguments -/
abbrev sIO : String := "java/lang/IndexOutOfBoundsException"
abbrev sIA : String := "java/lang/IllegalArgumentException"
abbrev sIS : String := "java/lang/IllegalStateException"
abbrev sNS : String := "java/util/NoSuchElementException"
def k1 (th : Option String) : Int32 := if th = none then 0 else 1
def k2 (c1 : String) (th : Option String) : Int32 := if th = none then 0 else if th = some c1 then 1 else 2
theorem k1_n : k1 none = 0 := rfl
theorem k1_s (a : String) : k1 (some a) = 1 := rfl
theorem k2_n (c : String) : k2 c none = 0 := rfl
theorem k2_1 (c : String) : k2 c (some c) = 1 := by unfold k2; rw [if_neg (Option.some_ne_none _), if_pos rfl]
theorem k2_2 {c d : String} (h : ¬ d = c) : k2 c (some d) = 2 := by unfold k2; rw [if_neg (Option.some_ne_none _), if_neg (fun q => h (Option.some.inj q))]
theorem sAI : ¬ sIA = sIO := by decide
theorem sSO : ¬ sIS = sIO := by decide
theorem sSA : ¬ sIS = sIA := by decide
theorem inI {p : Int32} {l h : Int64} {a b : Int} (hl : l.toInt = a) (hh : h.toInt = b) : f_X7_in (Int32.toInt64 p) l h = if p.toInt < a ∨ b < p.toInt then 0 else 1 := by
  unfold f_X7_in
  by_cases c1 : Int32.toInt64 p < l
  · rw [if_pos c1]
    rw [gL_lt, gI_l] at c1
    rw [if_pos (by omega)]
  · rw [if_neg c1]
    rw [gL_lt, gI_l] at c1
    by_cases c2 : h < Int32.toInt64 p
    · rw [if_pos c2]
      rw [gL_lt, gI_l] at c2
      rw [if_pos (by omega)]
    · rw [if_neg c2]
      rw [gL_lt, gI_l] at c2
      rw [if_neg (by omega)]
theorem two_iff {p a b : Int32} {A B : Int} {s : String} (ha : a.toInt = A) (hb : b.toInt = B) : (if p < a then (some s) else if p ≤ b then none else (some s)) = if p.toInt < A ∨ B < p.toInt then some s else none := by
  by_cases c1 : p < a
  · rw [if_pos c1]
    rw [gI_lt] at c1
    rw [if_pos (by omega)]
  · rw [if_neg c1]
    rw [gI_lt] at c1
    by_cases c2 : p ≤ b
    · rw [if_pos c2]
      rw [gI_le] at c2
      rw [if_neg (by omega)]
    · rw [if_neg c2]
      rw [gI_le] at c2
      rw [if_pos (by omega)]
theorem ite01 {c : Prop} [Decidable c] : ((if c then (0 : Int32) else 1) = 0) ↔ c := by
  by_cases h : c
  · rw [if_pos h]; simp [h]
  · rw [if_neg h]; simp [h]
theorem tank_iff (p : Int32) : f_X7_isTank p = 0 ↔ (p.toInt < 0 ∨ 7 < p.toInt) := by
  unfold f_X7_isTank
  rw [inI (a := 0) (b := 7) (by decide) (by decide), ite01]
theorem rt_iff (p : Int32) : th_X6_requireTank p = if f_X7_isTank p = 0 then some sIO else none := by
  have e0 : (0 : Int32).toInt = 0 := by decide
  have e8 : (8 : Int32).toInt = 8 := by decide
  unfold th_X6_requireTank
  have h := tank_iff p
  by_cases c1 : p < 0
  · rw [if_pos c1]
    rw [gI_lt] at c1
    rw [if_pos (h.mpr (by omega))]
  · rw [if_neg c1]
    rw [gI_lt] at c1
    by_cases c2 : p < 8
    · rw [if_pos c2]
      rw [gI_lt] at c2
      rw [if_neg (fun q => by have := h.mp q; omega)]
    · rw [if_neg c2]
      rw [gI_lt] at c2
      rw [if_pos (h.mpr (by omega))]
theorem loc_iff (p q : Int32) : f_X7_isLocation p q = 0 ↔ ((p.toInt < 0 ∨ 7 < p.toInt) ∨ q.toInt < 0 ∨ 31 < q.toInt) := by
  have h := tank_iff p
  unfold f_X7_isLocation
  by_cases c1 : f_X7_isTank p = 0
  · rw [if_pos c1]
    have := h.mp c1
    simp [this]
  · rw [if_neg c1, inI (a := 0) (b := 31) (by decide) (by decide)]
    by_cases c2 : q.toInt < 0 ∨ 31 < q.toInt
    · rw [if_pos c2, if_pos rfl]
      simp [c2]
    · rw [if_neg c2, if_neg (by decide : ¬ (1 : Int32) = 0)]
      constructor
      · intro z; exact absurd z (by decide)
      · intro z; exact absurd (z.elim (fun y => absurd (h.mpr y) c1) id) c2
theorem rl_iff (p q : Int32) : th_X6_requireLocation p q = if f_X7_isLocation p q = 0 then some sIO else none := by
  have e0 : (0 : Int32).toInt = 0 := by decide
  have e8 : (8 : Int32).toInt = 8 := by decide
  have e32 : (32 : Int32).toInt = 32 := by decide
  have h := loc_iff p q
  unfold th_X6_requireLocation
  by_cases c1 : p < 0
  · rw [if_pos c1]
    rw [gI_lt] at c1
    rw [if_pos (h.mpr (by omega))]
  · rw [if_neg c1]
    rw [gI_lt] at c1
    by_cases c2 : 8 ≤ p
    · rw [if_pos c2]
      rw [gI_le] at c2
      rw [if_pos (h.mpr (by omega))]
    · rw [if_neg c2]
      rw [gI_le] at c2
      by_cases c3 : q < 0
      · rw [if_pos c3]
        rw [gI_lt] at c3
        rw [if_pos (h.mpr (by omega))]
      · rw [if_neg c3]
        rw [gI_lt] at c3
        by_cases c4 : q < 32
        · rw [if_pos c4]
          rw [gI_lt] at c4
          rw [if_neg (fun z => by have := h.mp z; omega)]
        · rw [if_neg c4]
          rw [gI_lt] at c4
          rw [if_pos (h.mpr (by omega))]
theorem chk {p : Int32} {l h : Int64} {a b : Int32} {A B : Int} {s : String} (hl : l.toInt = A) (hh : h.toInt = B) (ha : a.toInt = A) (hb : b.toInt = B) : (if p < a then (some s) else if p ≤ b then none else (some s)) = if f_X7_in (Int32.toInt64 p) l h = 0 then some s else none := by
  rw [two_iff ha hb, inI hl hh]
  by_cases c : p.toInt < A ∨ B < p.toInt
  · rw [if_pos c, if_pos c, if_pos rfl]
  · rw [if_neg c, if_neg c, if_neg (by decide : ¬ (1 : Int32) = 0)]
theorem rw_iff (p : Int32) : th_X6_requireWord p = if f_X7_in (Int32.toInt64 p) (-524288) 524287 = 0 then some sIA else none := chk (A := -524288) (B := 524287) (by decide) (by decide) (by decide) (by decide)
theorem rtp_iff (p : Int32) : th_X6_requireTemperature p = if f_X7_isWarmth p = 0 then some sIA else none := chk (A := 0) (B := 1000) (by decide) (by decide) (by decide) (by decide)
theorem rc500_iff (p : Int32) : th_X6_requireCount p 500 = if f_X7_in (Int32.toInt64 p) 1 500 = 0 then some sIA else none := chk (A := 1) (B := 500) (by decide) (by decide) (by decide) (by decide)
theorem rc200_iff (p : Int32) : th_X6_requireCount p 200 = if f_X7_in (Int32.toInt64 p) 1 200 = 0 then some sIA else none := chk (A := 1) (B := 200) (by decide) (by decide) (by decide) (by decide)
theorem rc3200_iff (p : Int32) : th_X6_requireCount p 3200 = if f_X7_in (Int32.toInt64 p) 1 3200 = 0 then some sIA else none := chk (A := 1) (B := 3200) (by decide) (by decide) (by decide) (by decide)
theorem rs_iff (p : Int32) : th_X6_requireSlot p = if f_X7_in (Int32.toInt64 p) 0 1 = 0 then some sIO else none := chk (A := 0) (B := 1) (by decide) (by decide) (by decide) (by decide)
theorem sfp_iff (p : Int32) : th_X6_setFixedPeriod p = if f_X7_in (Int32.toInt64 p) 900000 1100000 = 0 then some sIA else none := chk (A := 900000) (B := 1100000) (by decide) (by decide) (by decide) (by decide)
theorem loc_nat {p q : Int32} (c : ¬ f_X7_isLocation p q = 0) : ∃ t k, t < 8 ∧ k < 32 ∧ p = nI t ∧ q = nI k := by
  obtain ⟨h1, h2⟩ := loc_of c
  obtain ⟨t, ht, rfl⟩ := of_rng (N := 8) (by decide) h1
  obtain ⟨k, hk, rfl⟩ := of_rng (N := 32) (by decide) h2
  exact ⟨t, k, ht, hk, rfl, rfl⟩
theorem tank_nat {p : Int32} (c : ¬ f_X7_isTank p = 0) : ∃ t, t < 8 ∧ p = nI t := by
  obtain ⟨t, ht, rfl⟩ := of_rng (N := 8) (by decide) (tank_of c)
  exact ⟨t, ht, rfl⟩
