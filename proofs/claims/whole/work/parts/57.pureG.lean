/-! PURE G: one instruction, in the class and in the reference -/
def mEx (fr x : Int32) (b : (Nat → Int32) × (Nat → Int32)) : Int32 × (Nat → Int32) × (Nat → Int32) :=
  if (x &&& 15) = 13 then
    if (f_X7_comesIn b.1 b.2).1 = 0 then (0, (f_X7_comesIn b.1 b.2).2.1, (f_X7_comesIn b.1 b.2).2.2)
    else (1, exT (f_X7_comesIn b.1 b.2).2.1 (f_X7_nextOf x) fr, (f_X7_comesIn b.1 b.2).2.2)
  else
    if (x &&& 15) = 14 then
      if (f_X7_goesOut b.1 b.2).1 = 0 then (0, (f_X7_goesOut b.1 b.2).2.1, (f_X7_goesOut b.1 b.2).2.2)
      else (1, exT (f_X7_goesOut b.1 b.2).2.1 (f_X7_nextOf x) fr, (f_X7_goesOut b.1 b.2).2.2)
    else
      if (x &&& 15) = 0 then (1, exT (upd b.1 4 1) (f_X7_nextOf x) fr, b.2)
      else
        if (x &&& 15) = 2 then (1, exT (f_X7_stores b.1 b.2 (f_X7_operandOf x)).1 (f_X7_nextOf x) fr, (f_X7_stores b.1 b.2 (f_X7_operandOf x)).2)
        else
          if 7 < (x &&& 15) then
            if (x &&& 15) = 8 then (1, exT (f_X7_shifts b.1 b.2 (x &&& 15) (f_X7_operandOf x % 32)).1 (f_X7_nextOf x) fr, (f_X7_shifts b.1 b.2 (x &&& 15) (f_X7_operandOf x % 32)).2)
            else
              if (x &&& 15) = 9 then (1, exT (f_X7_shifts b.1 b.2 (x &&& 15) (f_X7_operandOf x % 32)).1 (f_X7_nextOf x) fr, (f_X7_shifts b.1 b.2 (x &&& 15) (f_X7_operandOf x % 32)).2)
              else
                if 12 < (x &&& 15) then
                  if (x &&& 15) = 15 then (1, exT (f_X7_countsDown b.1 b.2 (f_X7_operandOf x)).1 (f_X7_nextOf x) fr, (f_X7_countsDown b.1 b.2 (f_X7_operandOf x)).2)
                  else (1, exT b.1 (f_X7_nextOf x) fr, b.2)
                else
                  if (f_X7_isTaken (f_X7_passes b.1 b.2 1).1 (x &&& 15)).1 = 0 then (1, exT (f_X7_isTaken (f_X7_passes b.1 b.2 1).1 (x &&& 15)).2 (f_X7_nextOf x) fr, (f_X7_passes b.1 b.2 1).2)
                  else (1, exT (f_X7_isTaken (f_X7_passes b.1 b.2 1).1 (x &&& 15)).2 (f_X7_operandOf x) fr, (f_X7_passes b.1 b.2 1).2)
          else (1, exT (f_X7_reads b.1 b.2 (x &&& 15) (f_X7_operandOf x)).1 (f_X7_nextOf x) fr, (f_X7_reads b.1 b.2 (x &&& 15) (f_X7_operandOf x)).2)
set_option maxRecDepth 20000 in
theorem mEx_eq (w ring : Nat → Int32) : f_X7_executes w ring = mEx (w 3) ((f_X7_waitsFor w ring ((w 3) % 32)).1 (Int32.toNatClampNeg (414 + (w 3)))) (f_X7_passes (f_X7_waitsFor w ring ((w 3) % 32)).1 (f_X7_waitsFor w ring ((w 3) % 32)).2 1) := rfl
abbrev tyX : Type := Int32 × Int32 × Int32 × Int32 × Int32 × Int32 × Int32 × Int32 × (Nat → Int32) × (Nat → Int32) × (Nat → Int32) × Int32 × (Nat → Int32) × Int32 × Int32 × Int32 × (Nat → Int32) × (Nat → Int32)
def ER (T : Nat) (et ot fp on : Int32) (rin : Nat → Int32) (fo : Int32) (z : tyX) (y : Int32 × (Nat → Int32) × (Nat → Int32)) : Prop :=
  ∃ T' : Nat, z.2.2.1 = nI T' ∧ T ≤ T' ∧ T' ≤ T + 99 ∧ RW T' z.2.2.2.2.2.2.2.1 z.2.2.2.2.2.2.2.2.1 z.2.2.2.2.2.2.2.2.2.2.1 z.2.2.2.2.2.2.2.2.2.2.2.1 ot fp on z.2.2.2.2.2.2.2.2.2.2.2.2.1 y.2.1 ∧
    RR z.1 z.2.1 z.2.2.2.1 z.2.2.2.2.1 z.2.2.2.2.2.1 z.2.2.2.2.2.2.1 z.2.2.2.2.2.2.2.2.2.2.2.2.2.1 z.2.2.2.2.2.2.2.2.2.2.2.2.2.2.1 rin fo z.2.2.2.2.2.2.2.2.2.2.2.2.2.2.2.1 z.2.2.2.2.2.2.2.2.2.2.2.2.2.2.2.2.1 z.2.2.2.2.2.2.2.2.2.2.2.2.2.2.2.2.2 y.2.1 ∧
    ((¬ y.1 = 0 ∧ z.1 = et + 1) ∨ (y.1 = 0 ∧ z.1 = et ∧ ¬ z.2.2.2.1 = 0))
theorem ER_fin {T T' H : Nat} {dr pt ot fp on et wt sta ac ov fi li fo lo nx : Int32} {bits ring slips temps rin rout cnt V R : Nat → Int32} (hH : H < 256) (a : T ≤ T') (a2 : T' ≤ T + 99) (hW : RW T' dr bits slips pt ot fp on temps V) (hR : RR et wt sta (nI H) ac ov fi li rin fo lo rout cnt V) (hn : 0 ≤ nx.toInt ∧ nx.toInt < 256) :
    ER T et ot fp on rin fo (et + 1, wt, nI T', sta, nx, ac, ov, dr, bits, ring, slips, pt, temps, fi, li, lo, rout, upd cnt (Int32.toNatClampNeg (nI H &&& 255)) ((cnt (Int32.toNatClampNeg (nI H &&& 255))) + 1)) (1, exT V nx (nI H), R) :=
  ⟨T', rfl, a, a2, hW.tail (by rw [nI_toInt (by omega)]; omega), hR.tail hn, Or.inl ⟨(by decide : ¬ (1 : Int32) = 0), rfl⟩⟩
theorem ER_not {T T' : Nat} {dr pt ot fp on et wt sta he ac ov fi li fo lo : Int32} {bits ring slips temps rin rout cnt V R : Nat → Int32} (a : T ≤ T') (a2 : T' ≤ T + 99) (hW : RW T' dr bits slips pt ot fp on temps V) (hR : RR et wt sta he ac ov fi li rin fo lo rout cnt V) (hs : ¬ sta = 0) :
    ER T et ot fp on rin fo (et, wt, nI T', sta, he, ac, ov, dr, bits, ring, slips, pt, temps, fi, li, lo, rout, cnt) (0, V, R) :=
  ⟨T', rfl, a, a2, hW, hR, Or.inr ⟨rfl, rfl, hs⟩⟩
/-! what an operation does with a word -/
theorem takes_rel1 {et wt sta he ac ov fi li fo lo : Int32} {rin rout cnt w : Nat → Int32} {v : Int64} (h : RR et wt sta he ac ov fi li rin fo lo rout cnt w) : RR et wt sta he (f_X2_putResult ov v).1 (f_X2_putResult ov v).2 fi li rin fo lo rout cnt (f_X7_takes w v 1) := by
  have h2 : w 2 = ov := h.1.2.1
  have hov : g01 ov := h.2.2.2.2.2.1
  unfold f_X2_putResult f_X7_takes
  rw [if_neg (by decide : ¬ (1 : Int32) = 0), pus, ← wrap_eq, pu (by decide : (2 : Nat) ≠ 1), h2]
  by_cases c : Int32.toInt64 (f_X6_wrap v) = v
  · rw [if_pos c, if_pos c]
    exact (h.ac (w20_wrap v)).ov hov
  · rw [if_neg c, if_neg c]
    exact (h.ac (w20_wrap v)).ov g01_1
theorem takes_rel0 {et wt sta he ac ov fi li fo lo : Int32} {rin rout cnt w : Nat → Int32} {v : Int64} (h : RR et wt sta he ac ov fi li rin fo lo rout cnt w) : RR et wt sta he (f_X6_wrap v) ov fi li rin fo lo rout cnt (f_X7_takes w v 0) := by
  have h2 : w 2 = ov := h.1.2.1
  have hov : g01 ov := h.2.2.2.2.2.1
  unfold f_X7_takes
  rw [if_pos rfl, ← wrap_eq, pu (by decide : (2 : Nat) ≠ 1), h2]
  exact (h.ac (w20_wrap v)).ov hov
theorem RW_takes {T : Nat} {dr pt ot fp on : Int32} {bits slips temps w : Nat → Int32} {v : Int64} {f : Int32} (h : RW T dr bits slips pt ot fp on temps w) : RW T dr bits slips pt ot fp on temps (f_X7_takes w v f) := h.frame (fun j hj => takes_cell (by omega) (by omega))
theorem RW_works {T : Nat} {dr pt ot fp on : Int32} {bits slips temps w : Nat → Int32} {o v : Int32} (h : RW T dr bits slips pt ot fp on temps w) : RW T dr bits slips pt ot fp on temps (f_X7_works w o v) := h.frame (fun j hj => works_cell (by omega) (by omega))

theorem works_1 {et wt sta he ac ov fi li fo lo v : Int32} {rin rout cnt w : Nat → Int32} (h : RR et wt sta he ac ov fi li rin fo lo rout cnt w) (hv : w20 v) : RR et wt sta he (f_X2_combine ac ov 1 v).1 (f_X2_combine ac ov 1 v).2 fi li rin fo lo rout cnt (f_X7_works w 1 v) := by
  have h1 : w 1 = ac := h.1.1
  have hac : w20 ac := h.2.2.2.2.2.2
  unfold f_X2_combine f_X7_works
  rw [h1]
  rw [if_pos rfl, if_pos rfl]
  exact h.ac hv
theorem works_3 {et wt sta he ac ov fi li fo lo v : Int32} {rin rout cnt w : Nat → Int32} (h : RR et wt sta he ac ov fi li rin fo lo rout cnt w) (hv : w20 v) : RR et wt sta he (f_X2_combine ac ov 3 v).1 (f_X2_combine ac ov 3 v).2 fi li rin fo lo rout cnt (f_X7_works w 3 v) := by
  have h1 : w 1 = ac := h.1.1
  have hac : w20 ac := h.2.2.2.2.2.2
  unfold f_X2_combine f_X7_works
  rw [h1]
  rw [if_neg (by decide : ¬ (3 : Int32) = 1), if_neg (by decide : ¬ (3 : Int32) = 1)]
  rw [if_neg (by decide : ¬ (3 : Int32) = 2), if_neg (by decide : ¬ (3 : Int32) = 2)]
  rw [if_pos rfl, if_pos rfl]
  dsimp only
  exact takes_rel1 h
theorem works_4 {et wt sta he ac ov fi li fo lo v : Int32} {rin rout cnt w : Nat → Int32} (h : RR et wt sta he ac ov fi li rin fo lo rout cnt w) (hv : w20 v) : RR et wt sta he (f_X2_combine ac ov 4 v).1 (f_X2_combine ac ov 4 v).2 fi li rin fo lo rout cnt (f_X7_works w 4 v) := by
  have h1 : w 1 = ac := h.1.1
  have hac : w20 ac := h.2.2.2.2.2.2
  unfold f_X2_combine f_X7_works
  rw [h1]
  rw [if_neg (by decide : ¬ (4 : Int32) = 1), if_neg (by decide : ¬ (4 : Int32) = 1)]
  rw [if_neg (by decide : ¬ (4 : Int32) = 2), if_neg (by decide : ¬ (4 : Int32) = 2)]
  rw [if_neg (by decide : ¬ (4 : Int32) = 3), if_neg (by decide : ¬ (4 : Int32) = 3)]
  rw [if_pos rfl, if_pos rfl]
  dsimp only
  exact takes_rel1 h
theorem works_5 {et wt sta he ac ov fi li fo lo v : Int32} {rin rout cnt w : Nat → Int32} (h : RR et wt sta he ac ov fi li rin fo lo rout cnt w) (hv : w20 v) : RR et wt sta he (f_X2_combine ac ov 5 v).1 (f_X2_combine ac ov 5 v).2 fi li rin fo lo rout cnt (f_X7_works w 5 v) := by
  have h1 : w 1 = ac := h.1.1
  have hac : w20 ac := h.2.2.2.2.2.2
  unfold f_X2_combine f_X7_works
  rw [h1]
  rw [if_neg (by decide : ¬ (5 : Int32) = 1), if_neg (by decide : ¬ (5 : Int32) = 1)]
  rw [if_neg (by decide : ¬ (5 : Int32) = 2), if_neg (by decide : ¬ (5 : Int32) = 2)]
  rw [if_neg (by decide : ¬ (5 : Int32) = 3), if_neg (by decide : ¬ (5 : Int32) = 3)]
  rw [if_neg (by decide : ¬ (5 : Int32) = 4), if_neg (by decide : ¬ (5 : Int32) = 4)]
  rw [if_pos rfl, if_pos rfl]
  exact h.ac (w20_and hac hv)
theorem works_6 {et wt sta he ac ov fi li fo lo v : Int32} {rin rout cnt w : Nat → Int32} (h : RR et wt sta he ac ov fi li rin fo lo rout cnt w) (hv : w20 v) : RR et wt sta he (f_X2_combine ac ov 6 v).1 (f_X2_combine ac ov 6 v).2 fi li rin fo lo rout cnt (f_X7_works w 6 v) := by
  have h1 : w 1 = ac := h.1.1
  have hac : w20 ac := h.2.2.2.2.2.2
  unfold f_X2_combine f_X7_works
  rw [h1]
  rw [if_neg (by decide : ¬ (6 : Int32) = 1), if_neg (by decide : ¬ (6 : Int32) = 1)]
  rw [if_neg (by decide : ¬ (6 : Int32) = 2), if_neg (by decide : ¬ (6 : Int32) = 2)]
  rw [if_neg (by decide : ¬ (6 : Int32) = 3), if_neg (by decide : ¬ (6 : Int32) = 3)]
  rw [if_neg (by decide : ¬ (6 : Int32) = 4), if_neg (by decide : ¬ (6 : Int32) = 4)]
  rw [if_neg (by decide : ¬ (6 : Int32) = 5), if_neg (by decide : ¬ (6 : Int32) = 5)]
  rw [if_pos rfl, if_pos rfl]
  exact h.ac (w20_xor hac hv)
theorem works_7 {et wt sta he ac ov fi li fo lo v : Int32} {rin rout cnt w : Nat → Int32} (h : RR et wt sta he ac ov fi li rin fo lo rout cnt w) (hv : w20 v) : RR et wt sta he (f_X2_combine ac ov 7 v).1 (f_X2_combine ac ov 7 v).2 fi li rin fo lo rout cnt (f_X7_works w 7 v) := by
  have h1 : w 1 = ac := h.1.1
  have hac : w20 ac := h.2.2.2.2.2.2
  unfold f_X2_combine f_X7_works
  rw [h1]
  rw [if_neg (by decide : ¬ (7 : Int32) = 1), if_neg (by decide : ¬ (7 : Int32) = 1)]
  rw [if_neg (by decide : ¬ (7 : Int32) = 2), if_neg (by decide : ¬ (7 : Int32) = 2)]
  rw [if_neg (by decide : ¬ (7 : Int32) = 3), if_neg (by decide : ¬ (7 : Int32) = 3)]
  rw [if_neg (by decide : ¬ (7 : Int32) = 4), if_neg (by decide : ¬ (7 : Int32) = 4)]
  rw [if_neg (by decide : ¬ (7 : Int32) = 5), if_neg (by decide : ¬ (7 : Int32) = 5)]
  rw [if_neg (by decide : ¬ (7 : Int32) = 6), if_neg (by decide : ¬ (7 : Int32) = 6)]
  rw [if_pos rfl]
  dsimp only
  exact takes_rel1 h
theorem perf_0 (sta ac ov : Int32) (bits : Nat → Int32) (fi li : Int32) (rin : Nat → Int32) (fo lo : Int32) (rout : Nat → Int32) (p : Int32) : f_X2_perform sta ac ov bits fi li rin fo lo rout 0 p = (1, ac, ov, bits, fi, li, lo, rout) := rfl
theorem perf_1 (sta ac ov : Int32) (bits : Nat → Int32) (fi li : Int32) (rin : Nat → Int32) (fo lo : Int32) (rout : Nat → Int32) (p : Int32) : f_X2_perform sta ac ov bits fi li rin fo lo rout 1 p = (sta, (f_X2_combine ac ov 1 (f_X5_wordAt bits p)).1, (f_X2_combine ac ov 1 (f_X5_wordAt bits p)).2, bits, fi, li, lo, rout) := rfl
theorem perf_2 (sta ac ov : Int32) (bits : Nat → Int32) (fi li : Int32) (rin : Nat → Int32) (fo lo : Int32) (rout : Nat → Int32) (p : Int32) : f_X2_perform sta ac ov bits fi li rin fo lo rout 2 p = (sta, ac, ov, (f_X5_putWord bits p ac), fi, li, lo, rout) := rfl
theorem perf_3 (sta ac ov : Int32) (bits : Nat → Int32) (fi li : Int32) (rin : Nat → Int32) (fo lo : Int32) (rout : Nat → Int32) (p : Int32) : f_X2_perform sta ac ov bits fi li rin fo lo rout 3 p = (sta, (f_X2_combine ac ov 3 (f_X5_wordAt bits p)).1, (f_X2_combine ac ov 3 (f_X5_wordAt bits p)).2, bits, fi, li, lo, rout) := rfl
theorem perf_4 (sta ac ov : Int32) (bits : Nat → Int32) (fi li : Int32) (rin : Nat → Int32) (fo lo : Int32) (rout : Nat → Int32) (p : Int32) : f_X2_perform sta ac ov bits fi li rin fo lo rout 4 p = (sta, (f_X2_combine ac ov 4 (f_X5_wordAt bits p)).1, (f_X2_combine ac ov 4 (f_X5_wordAt bits p)).2, bits, fi, li, lo, rout) := rfl
theorem perf_5 (sta ac ov : Int32) (bits : Nat → Int32) (fi li : Int32) (rin : Nat → Int32) (fo lo : Int32) (rout : Nat → Int32) (p : Int32) : f_X2_perform sta ac ov bits fi li rin fo lo rout 5 p = (sta, (f_X2_combine ac ov 5 (f_X5_wordAt bits p)).1, (f_X2_combine ac ov 5 (f_X5_wordAt bits p)).2, bits, fi, li, lo, rout) := rfl
theorem perf_6 (sta ac ov : Int32) (bits : Nat → Int32) (fi li : Int32) (rin : Nat → Int32) (fo lo : Int32) (rout : Nat → Int32) (p : Int32) : f_X2_perform sta ac ov bits fi li rin fo lo rout 6 p = (sta, (f_X2_combine ac ov 6 (f_X5_wordAt bits p)).1, (f_X2_combine ac ov 6 (f_X5_wordAt bits p)).2, bits, fi, li, lo, rout) := rfl
theorem perf_7 (sta ac ov : Int32) (bits : Nat → Int32) (fi li : Int32) (rin : Nat → Int32) (fo lo : Int32) (rout : Nat → Int32) (p : Int32) : f_X2_perform sta ac ov bits fi li rin fo lo rout 7 p = (sta, (f_X2_combine ac ov 7 (f_X5_wordAt bits p)).1, (f_X2_combine ac ov 7 (f_X5_wordAt bits p)).2, bits, fi, li, lo, rout) := rfl
theorem perf_8 (sta ac ov : Int32) (bits : Nat → Int32) (fi li : Int32) (rin : Nat → Int32) (fo lo : Int32) (rout : Nat → Int32) (p : Int32) : f_X2_perform sta ac ov bits fi li rin fo lo rout 8 p = (sta, (f_X6_wrap ((Int32.toInt64 ac) <<< ((Int32.toInt64 (f_X6_cycleOf p)) &&& 63))), ov, bits, fi, li, lo, rout) := rfl
theorem perf_9 (sta ac ov : Int32) (bits : Nat → Int32) (fi li : Int32) (rin : Nat → Int32) (fo lo : Int32) (rout : Nat → Int32) (p : Int32) : f_X2_perform sta ac ov bits fi li rin fo lo rout 9 p = (sta, ((ac >>> ((f_X6_cycleOf p) &&& 31)) : Int32), ov, bits, fi, li, lo, rout) := rfl
theorem perf_10 (sta ac ov : Int32) (bits : Nat → Int32) (fi li : Int32) (rin : Nat → Int32) (fo lo : Int32) (rout : Nat → Int32) (p : Int32) : f_X2_perform sta ac ov bits fi li rin fo lo rout 10 p = (sta, ac, ov, bits, fi, li, lo, rout) := rfl
theorem perf_11 (sta ac ov : Int32) (bits : Nat → Int32) (fi li : Int32) (rin : Nat → Int32) (fo lo : Int32) (rout : Nat → Int32) (p : Int32) : f_X2_perform sta ac ov bits fi li rin fo lo rout 11 p = (sta, ac, ov, bits, fi, li, lo, rout) := rfl
theorem perf_12 (sta ac ov : Int32) (bits : Nat → Int32) (fi li : Int32) (rin : Nat → Int32) (fo lo : Int32) (rout : Nat → Int32) (p : Int32) : f_X2_perform sta ac ov bits fi li rin fo lo rout 12 p = (sta, ac, 0, bits, fi, li, lo, rout) := rfl
theorem perf_13 (sta ac ov : Int32) (bits : Nat → Int32) (fi li : Int32) (rin : Nat → Int32) (fo lo : Int32) (rout : Nat → Int32) (p : Int32) : f_X2_perform sta ac ov bits fi li rin fo lo rout 13 p = (sta, (f_X4_removeFirst fi li rin).1, ov, bits, (f_X4_removeFirst fi li rin).2.1, (f_X4_removeFirst fi li rin).2.2, lo, rout) := rfl
theorem perf_14 (sta ac ov : Int32) (bits : Nat → Int32) (fi li : Int32) (rin : Nat → Int32) (fo lo : Int32) (rout : Nat → Int32) (p : Int32) : f_X2_perform sta ac ov bits fi li rin fo lo rout 14 p = (sta, ac, ov, bits, fi, li, (f_X4_addLast fo lo rout ac).1, (f_X4_addLast fo lo rout ac).2) := rfl
theorem perf_15 (sta ac ov : Int32) (bits : Nat → Int32) (fi li : Int32) (rin : Nat → Int32) (fo lo : Int32) (rout : Nat → Int32) (p : Int32) : f_X2_perform sta ac ov bits fi li rin fo lo rout 15 p = (sta, f_X6_wrap ((Int32.toInt64 (f_X5_wordAt bits p)) - 1), ov, bits, fi, li, lo, rout) := rfl
theorem jt_0 (ac ov : Int32) : f_X2_isJumpTaken ac ov 0 = 0 := rfl
theorem wf_0 : f_X3_waitsForOperand 0 = 0 := by decide
theorem ow_0 {X : Int32} (h : f_X3_opcode X = 0) : f_X3_ownTime X = 0 := by
  unfold f_X3_ownTime
  rw [h]
  rfl
theorem jt_1 (ac ov : Int32) : f_X2_isJumpTaken ac ov 1 = 0 := rfl
theorem wf_1 : f_X3_waitsForOperand 1 = 1 := by decide
theorem ow_1 {X : Int32} (h : f_X3_opcode X = 1) : f_X3_ownTime X = 1 := by
  unfold f_X3_ownTime
  rw [h]
  rfl
theorem jt_2 (ac ov : Int32) : f_X2_isJumpTaken ac ov 2 = 0 := rfl
theorem wf_2 : f_X3_waitsForOperand 2 = 1 := by decide
theorem ow_2 {X : Int32} (h : f_X3_opcode X = 2) : f_X3_ownTime X = 1 := by
  unfold f_X3_ownTime
  rw [h]
  rfl
theorem jt_3 (ac ov : Int32) : f_X2_isJumpTaken ac ov 3 = 0 := rfl
theorem wf_3 : f_X3_waitsForOperand 3 = 1 := by decide
theorem ow_3 {X : Int32} (h : f_X3_opcode X = 3) : f_X3_ownTime X = 1 := by
  unfold f_X3_ownTime
  rw [h]
  rfl
theorem jt_4 (ac ov : Int32) : f_X2_isJumpTaken ac ov 4 = 0 := rfl
theorem wf_4 : f_X3_waitsForOperand 4 = 1 := by decide
theorem ow_4 {X : Int32} (h : f_X3_opcode X = 4) : f_X3_ownTime X = 1 := by
  unfold f_X3_ownTime
  rw [h]
  rfl
theorem jt_5 (ac ov : Int32) : f_X2_isJumpTaken ac ov 5 = 0 := rfl
theorem wf_5 : f_X3_waitsForOperand 5 = 1 := by decide
theorem ow_5 {X : Int32} (h : f_X3_opcode X = 5) : f_X3_ownTime X = 1 := by
  unfold f_X3_ownTime
  rw [h]
  rfl
theorem jt_6 (ac ov : Int32) : f_X2_isJumpTaken ac ov 6 = 0 := rfl
theorem wf_6 : f_X3_waitsForOperand 6 = 1 := by decide
theorem ow_6 {X : Int32} (h : f_X3_opcode X = 6) : f_X3_ownTime X = 1 := by
  unfold f_X3_ownTime
  rw [h]
  rfl
theorem jt_7 (ac ov : Int32) : f_X2_isJumpTaken ac ov 7 = 0 := rfl
theorem wf_7 : f_X3_waitsForOperand 7 = 1 := by decide
theorem ow_7 {X : Int32} (h : f_X3_opcode X = 7) : f_X3_ownTime X = 21 := by
  unfold f_X3_ownTime
  rw [h]
  rfl
theorem jt_8 (ac ov : Int32) : f_X2_isJumpTaken ac ov 8 = 0 := rfl
theorem wf_8 : f_X3_waitsForOperand 8 = 0 := by decide
theorem ow_8 {X : Int32} (h : f_X3_opcode X = 8) : f_X3_ownTime X = 1 + f_X6_cycleOf (f_X3_operand X) := by
  unfold f_X3_ownTime
  rw [h]
  rfl
theorem jt_9 (ac ov : Int32) : f_X2_isJumpTaken ac ov 9 = 0 := rfl
theorem wf_9 : f_X3_waitsForOperand 9 = 0 := by decide
theorem ow_9 {X : Int32} (h : f_X3_opcode X = 9) : f_X3_ownTime X = 1 + f_X6_cycleOf (f_X3_operand X) := by
  unfold f_X3_ownTime
  rw [h]
  rfl
theorem jt_10 (ac ov : Int32) : f_X2_isJumpTaken ac ov 10 = if 0 ≤ ac then 0 else 1 := rfl
theorem wf_10 : f_X3_waitsForOperand 10 = 0 := by decide
theorem ow_10 {X : Int32} (h : f_X3_opcode X = 10) : f_X3_ownTime X = 1 := by
  unfold f_X3_ownTime
  rw [h]
  rfl
theorem jt_11 (ac ov : Int32) : f_X2_isJumpTaken ac ov 11 = if ac = 0 then 1 else 0 := rfl
theorem wf_11 : f_X3_waitsForOperand 11 = 0 := by decide
theorem ow_11 {X : Int32} (h : f_X3_opcode X = 11) : f_X3_ownTime X = 1 := by
  unfold f_X3_ownTime
  rw [h]
  rfl
theorem jt_12 (ac ov : Int32) : f_X2_isJumpTaken ac ov 12 = ov := rfl
theorem wf_12 : f_X3_waitsForOperand 12 = 0 := by decide
theorem ow_12 {X : Int32} (h : f_X3_opcode X = 12) : f_X3_ownTime X = 1 := by
  unfold f_X3_ownTime
  rw [h]
  rfl
theorem jt_13 (ac ov : Int32) : f_X2_isJumpTaken ac ov 13 = 0 := rfl
theorem wf_13 : f_X3_waitsForOperand 13 = 0 := by decide
theorem ow_13 {X : Int32} (h : f_X3_opcode X = 13) : f_X3_ownTime X = 1 := by
  unfold f_X3_ownTime
  rw [h]
  rfl
theorem jt_14 (ac ov : Int32) : f_X2_isJumpTaken ac ov 14 = 0 := rfl
theorem wf_14 : f_X3_waitsForOperand 14 = 0 := by decide
theorem ow_14 {X : Int32} (h : f_X3_opcode X = 14) : f_X3_ownTime X = 1 := by
  unfold f_X3_ownTime
  rw [h]
  rfl
theorem jt_15 (ac ov : Int32) : f_X2_isJumpTaken ac ov 15 = 0 := rfl
theorem wf_15 : f_X3_waitsForOperand 15 = 1 := by decide
theorem ow_15 {X : Int32} (h : f_X3_opcode X = 15) : f_X3_ownTime X = 33 := by
  unfold f_X3_ownTime
  rw [h]
  rfl
