theorem put_ov {ov : Int32} {v : Int64} (h : g01 ov) : ∀ z, z = f_X2_putResult ov v → g01 z.2 := by
  intro z hz
  unfold f_X2_putResult at hz
  refine gIteZ hz (fun _ hz => ?_) (fun _ hz => ?_)
  · skip
    subst hz
    exact h
  · skip
    subst hz
    exact g01_1
theorem put_ov1 {ov : Int32} {v : Int64} (h : g01 ov) : g01 (f_X2_putResult ov v).2 := put_ov h _ rfl
theorem comb_ov {ac : Int32} {ov : Int32} {p0 : Int32} {p1 : Int32} (h : g01 ov) : ∀ z, z = f_X2_combine ac ov p0 p1 → g01 z.2 := by
  intro z hz
  unfold f_X2_combine at hz
  refine gIteZ hz (fun _ hz => ?_) (fun _ hz => ?_)
  · skip
    subst hz
    exact h
  · skip
    refine gIteZ hz (fun _ hz => ?_) (fun _ hz => ?_)
    · skip
      subst hz
      exact h
    · skip
      refine gIteZ hz (fun _ hz => ?_) (fun _ hz => ?_)
      · skip
        subst hz
        (try dsimp only); with_reducible exact put_ov1 h
      · skip
        refine gIteZ hz (fun _ hz => ?_) (fun _ hz => ?_)
        · skip
          subst hz
          (try dsimp only); with_reducible exact put_ov1 h
        · skip
          refine gIteZ hz (fun _ hz => ?_) (fun _ hz => ?_)
          · skip
            subst hz
            exact h
          · skip
            refine gIteZ hz (fun _ hz => ?_) (fun _ hz => ?_)
            · skip
              subst hz
              exact h
            · skip
              refine gIteZ hz (fun _ hz => ?_) (fun _ hz => ?_)
              · skip
                subst hz
                (try dsimp only); with_reducible exact put_ov1 h
              · skip
                refine gIteZ hz (fun _ hz => ?_) (fun _ hz => ?_)
                · skip
                  subst hz
                  exact h
                · skip
                  refine gIteZ hz (fun _ hz => ?_) (fun _ hz => ?_)
                  · skip
                    subst hz
                    exact h
                  · skip
                    refine gIteZ hz (fun _ hz => ?_) (fun _ hz => ?_)
                    · skip
                      subst hz
                      exact h
                    · skip
                      refine gIteZ hz (fun _ hz => ?_) (fun _ hz => ?_)
                      · skip
                        subst hz
                        exact h
                      · skip
                        refine gIteZ hz (fun _ hz => ?_) (fun _ hz => ?_)
                        · skip
                          subst hz
                          exact h
                        · skip
                          refine gIteZ hz (fun _ hz => ?_) (fun _ hz => ?_)
                          · skip
                            subst hz
                            exact h
                          · skip
                            refine gIteZ hz (fun _ hz => ?_) (fun _ hz => ?_)
                            · skip
                              subst hz
                              exact h
                            · skip
                              refine gIteZ hz (fun _ hz => ?_) (fun _ hz => ?_)
                              · skip
                                subst hz
                                exact h
                              · skip
                                subst hz
                                exact h
theorem comb_ov1 {ac : Int32} {ov : Int32} {p0 : Int32} {p1 : Int32} (h : g01 ov) : g01 (f_X2_combine ac ov p0 p1).2 := comb_ov h _ rfl
theorem perf_ov {sta : Int32} {ac : Int32} {ov : Int32} {bits : Nat → Int32} {fi : Int32} {li : Int32} {rin : Nat → Int32} {fo : Int32} {lo : Int32} {rout : Nat → Int32} {p0 : Int32} {p1 : Int32} (h : g01 ov) : ∀ z, z = f_X2_perform sta ac ov bits fi li rin fo lo rout p0 p1 → g01 z.2.2.1 := by
  intro z hz
  unfold f_X2_perform at hz
  refine gIteZ hz (fun _ hz => ?_) (fun _ hz => ?_)
  · skip
    subst hz
    exact h
  · skip
    refine gIteZ hz (fun _ hz => ?_) (fun _ hz => ?_)
    · skip
      subst hz
      (try dsimp only); with_reducible exact comb_ov1 h
    · skip
      refine gIteZ hz (fun _ hz => ?_) (fun _ hz => ?_)
      · skip
        subst hz
        exact h
      · skip
        refine gIteZ hz (fun _ hz => ?_) (fun _ hz => ?_)
        · skip
          subst hz
          (try dsimp only); with_reducible exact comb_ov1 h
        · skip
          refine gIteZ hz (fun _ hz => ?_) (fun _ hz => ?_)
          · skip
            subst hz
            (try dsimp only); with_reducible exact comb_ov1 h
          · skip
            refine gIteZ hz (fun _ hz => ?_) (fun _ hz => ?_)
            · skip
              subst hz
              (try dsimp only); with_reducible exact comb_ov1 h
            · skip
              refine gIteZ hz (fun _ hz => ?_) (fun _ hz => ?_)
              · skip
                subst hz
                (try dsimp only); with_reducible exact comb_ov1 h
              · skip
                refine gIteZ hz (fun _ hz => ?_) (fun _ hz => ?_)
                · skip
                  subst hz
                  (try dsimp only); with_reducible exact comb_ov1 h
                · skip
                  refine gIteZ hz (fun _ hz => ?_) (fun _ hz => ?_)
                  · skip
                    subst hz
                    exact h
                  · skip
                    refine gIteZ hz (fun _ hz => ?_) (fun _ hz => ?_)
                    · skip
                      subst hz
                      exact h
                    · skip
                      refine gIteZ hz (fun _ hz => ?_) (fun _ hz => ?_)
                      · skip
                        subst hz
                        (try dsimp only); with_reducible exact comb_ov1 h
                      · skip
                        refine gIteZ hz (fun _ hz => ?_) (fun _ hz => ?_)
                        · skip
                          subst hz
                          (try dsimp only); with_reducible exact comb_ov1 h
                        · skip
                          refine gIteZ hz (fun _ hz => ?_) (fun _ hz => ?_)
                          · skip
                            subst hz
                            exact g01_0
                          · skip
                            refine gIteZ hz (fun _ hz => ?_) (fun _ hz => ?_)
                            · skip
                              subst hz
                              exact h
                            · skip
                              refine gIteZ hz (fun _ hz => ?_) (fun _ hz => ?_)
                              · skip
                                subst hz
                                exact h
                              · skip
                                subst hz
                                (try dsimp only); with_reducible exact comb_ov1 h
theorem perf_ov1 {sta : Int32} {ac : Int32} {ov : Int32} {bits : Nat → Int32} {fi : Int32} {li : Int32} {rin : Nat → Int32} {fo : Int32} {lo : Int32} {rout : Nat → Int32} {p0 : Int32} {p1 : Int32} (h : g01 ov) : g01 (f_X2_perform sta ac ov bits fi li rin fo lo rout p0 p1).2.2.1 := perf_ov h _ rfl
theorem exTm {X T : Nat} (h : T ≤ X ∧ X ≤ T + 99) (hT : T < 198000000) : (T : Int) ≤ (nI X).toInt ∧ (nI X).toInt ≤ (T : Int) + 99 := by
  have e := nI_toInt (n := X) (by omega)
  omega
theorem exA {T a : Nat} (ha : a < 32) (hT : T < 198000000) : (T : Int) ≤ (nI (T + a + 1)).toInt ∧ (nI (T + a + 1)).toInt ≤ (T : Int) + 99 := exTm (by omega) hT
theorem exB {T a b : Nat} (ha : a < 32) (hb : b ≤ 33) (hT : T < 198000000) : (T : Int) ≤ (nI (T + a + 1 + b)).toInt ∧ (nI (T + a + 1 + b)).toInt ≤ (T : Int) + 99 := exTm (by omega) hT
theorem exC {T a b c : Nat} (ha : a < 32) (hb : b < 32) (hc : c ≤ 33) (hT : T < 198000000) : (T : Int) ≤ (nI (T + a + 1 + b + c)).toInt ∧ (nI (T + a + 1 + b + c)).toInt ≤ (T : Int) + 99 := exTm (by omega) hT
theorem exD {T a : Nat} (ha : a < 32) (hT : T < 198000000) : (T : Int) ≤ (nI (T + a + 1 + 32 + 1)).toInt ∧ (nI (T + a + 1 + 32 + 1)).toInt ≤ (T : Int) + 99 := exTm (by omega) hT
theorem exE {T a b : Nat} (ha : a < 32) (hb : b < 32) (hT : T < 198000000) : (T : Int) ≤ (nI (T + a + 1 + b + 32 + 1)).toInt ∧ (nI (T + a + 1 + b + 32 + 1)).toInt ≤ (T : Int) + 99 := exTm (by omega) hT
set_option maxRecDepth 20000 in
set_option maxHeartbeats 4000000 in
theorem exec_inv {et : Int32} {wt : Int32} {sta : Int32} {he : Int32} {ac : Int32} {ov : Int32} {T : Nat} {dr : Int32} {bits : Nat → Int32} {ring : Nat → Int32} {slips : Nat → Int32} {pt : Int32} {ot : Int32} {fp : Int32} {on : Int32} {temps : Nat → Int32} {fi : Int32} {li : Int32} {rin : Nat → Int32} {fo : Int32} {lo : Int32} {rout : Nat → Int32} {cnt : Nat → Int32} (h : g01 ov) (hT : T < 198000000) : ∀ z, z = f_X2_executeNext et wt sta he ac ov T dr bits ring slips pt ot fp on temps fi li rin fo lo rout cnt → ((T : Int) ≤ z.2.2.1.toInt ∧ z.2.2.1.toInt ≤ (T : Int) + 99) ∧ g01 z.2.2.2.2.2.2.1 := by
  intro z hz
  unfold f_X2_executeNext at hz
  dsimp only at hz
  refine gIteZ hz (fun _ hz => ?_) (fun _ hz => ?_)
  · skip
    refine gIteZ hz (fun _ hz => ?_) (fun _ hz => ?_)
    · skip
      subst hz
      exact ⟨exA (wU_cl _ _) hT, h⟩
    · skip
      refine gIteZ hz (fun _ hz => ?_) (fun _ hz => ?_)
      · skip
        subst hz
        exact ⟨exB (wU_cl _ _) (ot_cl _) hT, perf_ov1 h⟩
      · skip
        subst hz
        exact ⟨exB (wU_cl _ _) (ot_cl _) hT, perf_ov1 h⟩
  · skip
    refine gIteZ hz (fun _ hz => ?_) (fun _ hz => ?_)
    · skip
      refine gIteZ hz (fun _ hz => ?_) (fun _ hz => ?_)
      · skip
        refine gIteZ hz (fun _ hz => ?_) (fun _ hz => ?_)
        · skip
          subst hz
          exact ⟨exB (wU_cl _ _) (ot_cl _) hT, perf_ov1 h⟩
        · skip
          subst hz
          exact ⟨exB (wU_cl _ _) (ot_cl _) hT, perf_ov1 h⟩
      · skip
        subst hz
        exact ⟨exA (wU_cl _ _) hT, h⟩
    · skip
      refine gIteZ hz (fun _ hz => ?_) (fun _ hz => ?_)
      · skip
        refine gIteZ hz (fun _ hz => ?_) (fun _ hz => ?_)
        · skip
          refine gIteZ hz (fun _ hz => ?_) (fun _ hz => ?_)
          · skip
            subst hz
            exact ⟨exD (wU_cl _ _) hT, perf_ov1 h⟩
          · skip
            subst hz
            exact ⟨exD (wU_cl _ _) hT, perf_ov1 h⟩
        · skip
          refine gIteZ hz (fun _ hz => ?_) (fun _ hz => ?_)
          · skip
            subst hz
            exact ⟨exB (wU_cl _ _) (ot_cl _) hT, perf_ov1 h⟩
          · skip
            subst hz
            exact ⟨exB (wU_cl _ _) (ot_cl _) hT, perf_ov1 h⟩
      · skip
        refine gIteZ hz (fun _ hz => ?_) (fun _ hz => ?_)
        · skip
          refine gIteZ hz (fun _ hz => ?_) (fun _ hz => ?_)
          · skip
            subst hz
            exact ⟨exE (wU_cl _ _) (wU_cl _ _) hT, perf_ov1 h⟩
          · skip
            subst hz
            exact ⟨exE (wU_cl _ _) (wU_cl _ _) hT, perf_ov1 h⟩
        · skip
          refine gIteZ hz (fun _ hz => ?_) (fun _ hz => ?_)
          · skip
            subst hz
            exact ⟨exC (wU_cl _ _) (wU_cl _ _) (ot_cl _) hT, perf_ov1 h⟩
          · skip
            subst hz
            exact ⟨exC (wU_cl _ _) (wU_cl _ _) (ot_cl _) hT, perf_ov1 h⟩
