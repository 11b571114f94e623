/-! PURE Y: the text grows and shrinks -/
theorem lt_nI0 {m : Nat} (h : m < 700) : ¬ nI m < 0 := fun z => by
  have z2 := (nI_ltI (a := m) (b := 0) (by omega) (by omega)).mp z
  omega
theorem ge_nI600 {m : Nat} (h : m < 600) : ¬ (600 : Int32) ≤ nI m := fun z => by
  have z2 := (nI_leI (a := 600) (b := m) (by omega) (by omega)).mp z
  omega
theorem st4 {p : Int32} {k m : Nat} {t : Nat → Int32} (hm : m < 600) : st_X0_addFourBytes_3 p k t (nI m) = (upd t m (((p >>> ((24 - 8 * (nI k)) &&& 31)) : Int32) &&& 255), nI (m + 1)) := by
  unfold st_X0_addFourBytes_3
  rw [if_neg (lt_nI0 (by omega)), if_neg (ge_nI600 hm), nI_clamp (by omega), nI_1]
theorem TB.put {t : Nat → Int32} (h : TB t) (a : Nat) (x : Int32) : TB (upd t a (x &&& 255)) := by
  intro j
  by_cases e : j = a
  · subst e
    rw [pus, gI_and255]
    omega
  · rw [pu e]
    exact h j
theorem four_eq {n : Nat} (hn : n + 4 ≤ 600) (text : Nat → Int32) (v : Int32) : f_X0_addFourBytes (nI n) text v = f_X7_four (nI n) text v ∧ (f_X7_four (nI n) text v).1 = nI (n + 4) ∧ (TB text → TB (f_X7_four (nI n) text v).2) := by
  have w0 : (24 : Int32) - 8 * nI 0 = 24 := by decide
  have w1 : (24 : Int32) - 8 * nI 1 = 16 := by decide
  have w2 : (24 : Int32) - 8 * nI 2 = 8 := by decide
  have w3 : (24 : Int32) - 8 * nI 3 = 0 := by decide
  have e1 : it_X0_addFourBytes_3 (nI n) text v 1 = (upd text n (((v >>> ((24 : Int32) &&& 31)) : Int32) &&& 255), nI (n + 1)) := by
    show st_X0_addFourBytes_3 v 0 text (nI n) = _
    rw [st4 (by omega), w0]
  have e2 : it_X0_addFourBytes_3 (nI n) text v 2 = (upd (upd text n (((v >>> ((24 : Int32) &&& 31)) : Int32) &&& 255)) (n + 1) (((v >>> ((16 : Int32) &&& 31)) : Int32) &&& 255), nI (n + 2)) := by
    show st_X0_addFourBytes_3 v 1 (it_X0_addFourBytes_3 (nI n) text v 1).1 (it_X0_addFourBytes_3 (nI n) text v 1).2 = _
    rw [e1]
    dsimp only
    rw [st4 (by omega), w1]
  have e3 : it_X0_addFourBytes_3 (nI n) text v 3 = (upd (upd (upd text n (((v >>> ((24 : Int32) &&& 31)) : Int32) &&& 255)) (n + 1) (((v >>> ((16 : Int32) &&& 31)) : Int32) &&& 255)) (n + 2) (((v >>> ((8 : Int32) &&& 31)) : Int32) &&& 255), nI (n + 3)) := by
    show st_X0_addFourBytes_3 v 2 (it_X0_addFourBytes_3 (nI n) text v 2).1 (it_X0_addFourBytes_3 (nI n) text v 2).2 = _
    rw [e2]
    dsimp only
    rw [st4 (by omega), w2]
  have e4 : it_X0_addFourBytes_3 (nI n) text v 4 = (upd (upd (upd (upd text n (((v >>> ((24 : Int32) &&& 31)) : Int32) &&& 255)) (n + 1) (((v >>> ((16 : Int32) &&& 31)) : Int32) &&& 255)) (n + 2) (((v >>> ((8 : Int32) &&& 31)) : Int32) &&& 255)) (n + 3) (((v >>> ((0 : Int32) &&& 31)) : Int32) &&& 255), nI (n + 4)) := by
    show st_X0_addFourBytes_3 v 3 (it_X0_addFourBytes_3 (nI n) text v 3).1 (it_X0_addFourBytes_3 (nI n) text v 3).2 = _
    rw [e3]
    dsimp only
    rw [st4 (by omega), w3]
  have ef : f_X7_four (nI n) text v = (nI (n + 4), upd (upd (upd (upd text n (((v >>> ((24 : Int32) &&& 31)) : Int32) &&& 255)) (n + 1) (((v >>> ((16 : Int32) &&& 31)) : Int32) &&& 255)) (n + 2) (((v >>> ((8 : Int32) &&& 31)) : Int32) &&& 255)) (n + 3) (((v >>> ((0 : Int32) &&& 31)) : Int32) &&& 255)) := by
    unfold f_X7_four
    rw [nI_1, nI_1, nI_1, nI_1, nI_clamp (n := n) (by omega), nI_clamp (n := n + 1) (by omega), nI_clamp (n := n + 1 + 1) (by omega), nI_clamp (n := n + 1 + 1 + 1) (by omega)]
  refine ⟨?_, by rw [ef], fun ht => ?_⟩
  · unfold f_X0_addFourBytes
    rw [e4, ef]
  · rw [ef]
    exact (((ht.put _ _).put _ _).put _ _).put _ _
theorem cs_append {L : Nat} {text : Nat → Int32} (hL : L ≤ 600) (p0 p1 p2 p3 p4 : Int32) :
    k1 (th_X6_append (nI L)) = (f_X7_append (nI L) text p0 p1 p2 p3 p4).2.1 ∧ (th_X6_append (nI L) = none → (f_X6_append (nI L) text p0 p1 p2 p3 p4).1 = (f_X7_append (nI L) text p0 p1 p2 p3 p4).1) ∧
    (∃ L' : Nat, L' ≤ 600 ∧ (f_X6_append (nI L) text p0 p1 p2 p3 p4).2.1 = nI L' ∧ (f_X7_append (nI L) text p0 p1 p2 p3 p4).2.2.1 = nI L') ∧ (f_X6_append (nI L) text p0 p1 p2 p3 p4).2.2 = (f_X7_append (nI L) text p0 p1 p2 p3 p4).2.2.2 ∧ (TB text → TB (f_X7_append (nI L) text p0 p1 p2 p3 p4).2.2.2) := by
  unfold th_X6_append f_X6_append f_X7_append
  by_cases c : nI L + 20 ≤ 600
  · rw [if_pos c, if_pos c, if_pos c]
    have c2 : L + 20 ≤ 600 := by
      rw [show (20 : Int32) = nI 20 from rfl, nI_add] at c
      exact (nI_leI (b := 600) (by omega) (by omega)).mp c
    obtain ⟨a1, b1, t1⟩ := four_eq (n := L) (by omega) text p0
    generalize f_X7_four (nI L) text p0 = q1 at *
    obtain ⟨x1, y1⟩ := q1
    dsimp only at b1 t1
    subst b1
    obtain ⟨a2, b2, t2⟩ := four_eq (n := L + 4) (by omega) y1 p1
    rw [a1]
    dsimp only
    generalize f_X7_four (nI (L + 4)) y1 p1 = q2 at *
    obtain ⟨x2, y2⟩ := q2
    dsimp only at b2 t2
    subst b2
    obtain ⟨a3, b3, t3⟩ := four_eq (n := L + 4 + 4) (by omega) y2 p2
    rw [a2]
    dsimp only
    generalize f_X7_four (nI (L + 4 + 4)) y2 p2 = q3 at *
    obtain ⟨x3, y3⟩ := q3
    dsimp only at b3 t3
    subst b3
    obtain ⟨a4, b4, t4⟩ := four_eq (n := L + 4 + 4 + 4) (by omega) y3 p3
    rw [a3]
    dsimp only
    generalize f_X7_four (nI (L + 4 + 4 + 4)) y3 p3 = q4 at *
    obtain ⟨x4, y4⟩ := q4
    dsimp only at b4 t4
    subst b4
    obtain ⟨a5, b5, t5⟩ := four_eq (n := L + 4 + 4 + 4 + 4) (by omega) y4 p4
    rw [a4]
    dsimp only
    generalize f_X7_four (nI (L + 4 + 4 + 4 + 4)) y4 p4 = q5 at *
    obtain ⟨x5, y5⟩ := q5
    dsimp only at b5 t5
    subst b5
    rw [a5]
    exact ⟨rfl, fun _ => rfl, ⟨L + 20, c2, rfl, rfl⟩, rfl, fun ht => t5 (t4 (t3 (t2 (t1 ht))))⟩
  · rw [if_neg c, if_neg c, if_neg c]
    exact ⟨rfl, fun z => absurd z (Option.some_ne_none _), ⟨L, hL, rfl, rfl⟩, rfl, fun ht => ht⟩
theorem cs_truncate {L : Nat} (hL : L ≤ 600) (p : Int32) :
    k1 (th_X6_truncate (nI L) p) = (f_X7_truncate (nI L) p).2.1 ∧ (th_X6_truncate (nI L) p = none → (f_X6_truncate (nI L) p).1 = (f_X7_truncate (nI L) p).1) ∧
    ∃ L' : Nat, L' ≤ 600 ∧ (f_X6_truncate (nI L) p).2 = nI L' ∧ (f_X7_truncate (nI L) p).2.2 = nI L' := by
  have e : th_X6_truncate (nI L) p = if f_X7_in (Int32.toInt64 p) 0 (Int32.toInt64 (nI L)) = 0 then some sIO else none := chk (A := 0) (B := L) (by decide) (by rw [Int32.toInt_toInt64, nI_toInt (by omega)]) (by decide) (nI_toInt (by omega))
  have e0 : th_X6_truncate (nI L) p = if p < 0 then some sIO else if p ≤ nI L then none else some sIO := rfl
  unfold f_X7_truncate
  by_cases c : f_X7_in (Int32.toInt64 p) 0 (Int32.toInt64 (nI L)) = 0
  · rw [if_pos c] at e
    rw [if_pos c, e]
    refine ⟨rfl, fun z => absurd z (Option.some_ne_none _), L, hL, ?_, rfl⟩
    unfold f_X6_truncate
    rw [e] at e0
    split
    · rfl
    · split
      · rename_i h1 h2
        rw [if_neg h1, if_pos h2] at e0
        exact absurd e0 (Option.some_ne_none _)
      · rfl
  · rw [if_neg c] at e
    rw [if_neg c, e]
    have hq := in_ofI (a := 0) (b := L) c (by decide) (by rw [Int32.toInt_toInt64, nI_toInt (by omega)])
    obtain ⟨n, hn, rfl⟩ := of_rng (x := p) (N := 601) (by decide) (by omega)
    have e3 : f_X6_truncate (nI L) (nI n) = (nI n, nI n) := by
      rw [e] at e0
      unfold f_X6_truncate
      split
      · rename_i h1
        rw [if_pos h1] at e0
        exact absurd e0.symm (Option.some_ne_none _)
      · split
        · rfl
        · rename_i h1 h2
          rw [if_neg h1, if_neg h2] at e0
          exact absurd e0.symm (Option.some_ne_none _)
    rw [e3]
    exact ⟨rfl, fun _ => rfl, n, by omega, rfl, rfl⟩
