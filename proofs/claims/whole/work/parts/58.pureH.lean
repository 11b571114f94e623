/-! PURE H: one instruction: every operation -/
theorem and63_nI {k : Nat} (h : k < 2147483648) : (nI k &&& 63).toNatClampNeg = k % 64 := by
  rw [pk_andN (n := k) (by omega) 6 (by decide), nI_clamp (Nat.lt_of_lt_of_le (Nat.mod_lt _ (by decide)) (by decide))]
theorem and63_nI' {k : Nat} (h : k < 2147483648) : nI k &&& 63 = nI (k % 64) := pk_andN (n := k) (by omega) 6 (by decide)
theorem full_iff {L : Nat} (hL : L ≤ 64) : (f_X4_isFull (nI L) = 0 ↔ L < 64) ∧ (nI L = 64 ↔ ¬ L < 64) := by
  have e64 : (64 : Int32) = nI 64 := rfl
  unfold f_X4_isFull
  constructor
  · by_cases c : L < 64
    · have : nI L < 64 := nI_lt (a := L) (b := 64) c (by decide)
      rw [if_pos this]; simp [c]
    · have : ¬ nI L < 64 := nI_nlt (a := L) (b := 64) (by omega) (by omega)
      rw [if_neg this]; simp [c]
  · rw [e64, nI_eq (by omega) (by decide)]
    omega
theorem RQ.push {b : Nat} {f l x : Int32} {ring w : Nat → Int32} (h : RQ b f l ring w) (hb : b < 1000) (hl : f_X4_isFull l = 0) (hx : w20 x) : RQ b f (f_X4_addLast f l ring x).1 (f_X4_addLast f l ring x).2 (upd w (Int32.toNatClampNeg (nI b + l)) x) ∧ ∀ j, (∀ i, i < 64 → j ≠ b + i) → upd w (Int32.toNatClampNeg (nI b + l)) x j = w j := by
  obtain ⟨F, L, h1, h2, rfl, rfl, h5⟩ := h
  have hL := (full_iff h2).1.mp hl
  have ei : (nI b + nI L).toNatClampNeg = b + L := ixA b L (by omega)
  rw [ei]
  refine ⟨⟨F, L + 1, h1, by omega, rfl, nI_1 L, fun i hi => ?_⟩, fun j hj => pu (hj L (by omega))⟩
  unfold f_X4_addLast
  dsimp only
  rw [nI_add, and63_nI (by omega)]
  by_cases e : i = L
  · subst e
    rw [pus, pus]
    exact ⟨rfl, hx⟩
  · rw [pu (by omega), pu (by omega)]
    exact h5 i (by omega)
theorem RQ.pop {b : Nat} {f l : Int32} {ring w v : Nat → Int32} (h : RQ b f l ring w) (hl : ¬ l = 0) (hv : ∀ i, i < l.toNatClampNeg - 1 → v (b + i) = w (b + i + 1)) :
    (f_X4_removeFirst f l ring).1 = w b ∧ w20 (f_X4_removeFirst f l ring).1 ∧ RQ b (f_X4_removeFirst f l ring).2.1 (f_X4_removeFirst f l ring).2.2 ring v := by
  obtain ⟨F, L, h1, h2, rfl, rfl, h5⟩ := h
  rw [nI_clamp (by omega)] at hv
  have h0 : 0 < L := Nat.pos_of_ne_zero (fun q => hl (by rw [q]; rfl))
  have q := h5 0 h0
  rw [Nat.add_zero, Nat.add_zero] at q
  have e1 : (f_X4_removeFirst (nI F) (nI L) ring).1 = ring (F % 64) := by
    unfold f_X4_removeFirst
    dsimp only
    rw [and63_nI (by omega)]
  rw [e1]
  refine ⟨q.1.symm, q.2, (F + 1) % 64, L - 1, Nat.mod_lt _ (by decide), by omega, ?_, ?_, fun i hi => ?_⟩
  · unfold f_X4_removeFirst
    dsimp only
    rw [nI_1, and63_nI' (by omega)]
  · unfold f_X4_removeFirst
    dsimp only
    have e : L = (L - 1) + 1 := by omega
    rw [e, nI_pred]
    congr 1
  · have z := h5 (i + 1) (by omega)
    have e2 : ((F + 1) % 64 + i) % 64 = (F + (i + 1)) % 64 := by omega
    rw [e2, hv i (by omega)]
    exact z
theorem in_rel {et wt sta he ac ov fi li fo lo : Int32} {rin rout cnt w : Nat → Int32} (h : RR et wt sta he ac ov fi li rin fo lo rout cnt w) (hl : ¬ li = 0) :
    RR et wt sta he (f_X4_removeFirst fi li rin).1 ov (f_X4_removeFirst fi li rin).2.1 (f_X4_removeFirst fi li rin).2.2 rin fo lo rout cnt (it_X7_comesIn_45 w ((w 12).toNatClampNeg - 1)) ∧ ∀ j, j ≠ 1 → j ≠ 12 → (∀ i, i < 64 → j ≠ 30 + i) → it_X7_comesIn_45 w ((w 12).toNatClampNeg - 1) j = w j := by
  obtain ⟨⟨a1, a2, a3, a4, a5, a6, a7, a8⟩, b, c, d, e, f, g⟩ := h
  obtain ⟨L, hL, eL⟩ : ∃ L, L ≤ 64 ∧ li = nI L := by obtain ⟨F, L, h1, h2, h3, h4, -⟩ := c; exact ⟨L, h2, h4⟩
  have h12 : (w 12).toNatClampNeg = L := by rw [a7, eL, nI_clamp (by omega)]
  have hi := comesIn_it (w := w) (L - 1) (by omega)
  obtain ⟨p1, p2, p3⟩ := c.pop hl (v := it_X7_comesIn_45 w (L - 1)) (fun i hi9 => by
    rw [eL, nI_clamp (by omega)] at hi9
    rw [hi, if_pos (by omega)])
  rw [h12]
  have hne : ∀ j, j ≠ 1 → j ≠ 12 → (∀ i, i < 64 → j ≠ 30 + i) → it_X7_comesIn_45 w (L - 1) j = w j := fun j j1 j12 jq => by
    rw [hi, if_neg (by
      intro q
      exact jq (j - 30) (by omega) (by omega)), pu j12, pu j1]
  have n1 : ∀ j, j < 30 → j ≠ 1 → j ≠ 12 → it_X7_comesIn_45 w (L - 1) j = w j := fun j q1 q2 q3 => hne j q2 q3 (fun i _ => by omega)
  have n2 : ∀ j, 94 ≤ j → it_X7_comesIn_45 w (L - 1) j = w j := fun j q1 => hne j (by omega) (by omega) (fun i _ => by omega)
  refine ⟨⟨⟨?_, ?_, ?_, ?_, ?_, ?_, ?_, ?_⟩, fun k hk => ?_, p3, d.frame (fun i _ => n2 _ (by omega)), e, f, p2⟩, hne⟩
  · rw [hi, if_neg (by omega), pu (by decide), pus]; exact p1.symm
  · rw [n1 2 (by decide) (by decide) (by decide)]; exact a2
  · rw [n1 3 (by decide) (by decide) (by decide)]; exact a3
  · rw [n1 4 (by decide) (by decide) (by decide)]; exact a4
  · rw [n1 5 (by decide) (by decide) (by decide)]; exact a5
  · rw [n1 6 (by decide) (by decide) (by decide)]; exact a6
  · rw [hi, if_neg (by omega), pus, a7]; rfl
  · rw [n1 13 (by decide) (by decide) (by decide)]; exact a8
  · rw [n2 _ (by omega)]; exact b k hk
theorem out_rel {et wt sta he ac ov fi li fo lo : Int32} {rin rout cnt w : Nat → Int32} (h : RR et wt sta he ac ov fi li rin fo lo rout cnt w) (hl : f_X4_isFull lo = 0) :
    RR et wt sta he ac ov fi li rin fo (f_X4_addLast fo lo rout ac).1 (f_X4_addLast fo lo rout ac).2 cnt (upd (upd w (Int32.toNatClampNeg (94 + (w 13))) (w 1)) 13 (((upd w (Int32.toNatClampNeg (94 + (w 13))) (w 1)) 13) + 1)) ∧ ∀ j, j ≠ 13 → (∀ i, i < 64 → j ≠ 94 + i) → upd (upd w (Int32.toNatClampNeg (94 + (w 13))) (w 1)) 13 (((upd w (Int32.toNatClampNeg (94 + (w 13))) (w 1)) 13) + 1) j = w j := by
  obtain ⟨⟨a1, a2, a3, a4, a5, a6, a7, a8⟩, b, c, d, e, f, g⟩ := h
  obtain ⟨p1, p2⟩ := d.push (by decide) hl g
  have l94 : (94 : Int32) = nI 94 := rfl
  rw [a1, a8, l94]
  have hne : ∀ j, j ≠ 13 → (∀ i, i < 64 → j ≠ 94 + i) → upd (upd w (Int32.toNatClampNeg (nI 94 + lo)) ac) 13 (((upd w (Int32.toNatClampNeg (nI 94 + lo)) ac) 13) + 1) j = w j := fun j j13 jq => by rw [pu j13]; exact p2 j jq
  have n1 : ∀ j, j < 94 → j ≠ 13 → upd (upd w (Int32.toNatClampNeg (nI 94 + lo)) ac) 13 (((upd w (Int32.toNatClampNeg (nI 94 + lo)) ac) 13) + 1) j = w j := fun j q1 q2 => hne j q2 (fun i _ => by omega)
  have n2 : ∀ j, 158 ≤ j → upd (upd w (Int32.toNatClampNeg (nI 94 + lo)) ac) 13 (((upd w (Int32.toNatClampNeg (nI 94 + lo)) ac) 13) + 1) j = w j := fun j q1 => hne j (by omega) (fun i _ => by omega)
  refine ⟨⟨⟨?_, ?_, ?_, ?_, ?_, ?_, ?_, ?_⟩, fun k hk => ?_, c.frame (fun i _ => n1 _ (by omega) (by omega)), p1.frame (fun i _ => pu (by omega)), e, f, g⟩, hne⟩
  · rw [n1 1 (by decide) (by decide)]; exact a1
  · rw [n1 2 (by decide) (by decide)]; exact a2
  · rw [n1 3 (by decide) (by decide)]; exact a3
  · rw [n1 4 (by decide) (by decide)]; exact a4
  · rw [n1 5 (by decide) (by decide)]; exact a5
  · rw [n1 6 (by decide) (by decide)]; exact a6
  · rw [n1 12 (by decide) (by decide)]; exact a7
  · rw [pus, p2 13 (fun i _ => by omega), a8]; rfl
  · rw [n2 _ (by omega)]; exact b k hk

def BX (T n1 H P : Nat) (dr pt ot fp on et wt sta ac ov fi li fo lo x : Int32) (bits ring slips temps rin rout cnt : Nat → Int32) (t1 : tyA) (t2 : tyP) (b : (Nat → Int32) × (Nat → Int32)) : Prop :=
  (Int32.toNatClampNeg (f_X6_waitingUntil (nI H) (nI T))) = n1 ∧ (f_X2_awaitCycle wt T dr bits ring slips pt ot fp on temps (nI H)) = t1 ∧ (f_X2_pass (T + n1) t1.2.1 t1.2.2.1 t1.2.2.2.1 t1.2.2.2.2.1 t1.2.2.2.2.2.1 ot fp on t1.2.2.2.2.2.2 1) = t2 ∧ f_X5_wordAt t1.2.2.1 (nI H) = sg x ∧ f_X3_operand (sg x) = nI P ∧ f_X7_operandOf x = nI P ∧
  RW (T + n1 + 1) t2.1 t2.2.1 t2.2.2.2.1 t2.2.2.2.2.1 ot fp on t2.2.2.2.2.2 b.1 ∧ RR et t1.1 sta (nI H) ac ov fi li rin fo lo rout cnt b.1 ∧ n1 < 32 ∧ H < 256 ∧ P < 256 ∧ T + 200 < 190000000
theorem ex_1 {T n1 H P : Nat} {dr pt ot fp on et wt sta ac ov fi li fo lo x : Int32} {bits ring slips temps rin rout cnt : Nat → Int32} {t1 : tyA} {t2 : tyP} {b : (Nat → Int32) × (Nat → Int32)} (B : BX T n1 H P dr pt ot fp on et wt sta ac ov fi li fo lo x bits ring slips temps rin rout cnt t1 t2 b) (eo : x &&& 15 = 1) : ER T et ot fp on rin fo (f_X2_executeNext et wt sta (nI H) ac ov T dr bits ring slips pt ot fp on temps fi li rin fo lo rout cnt) (mEx (nI H) x b) := by
  obtain ⟨hn1, h1, h2, hX, hp, hq, W2, R2, hn, hH, hP, hT⟩ := B
  have hop : f_X3_opcode (sg x) = 1 := (SL_opcode (SL_sg x)).trans eo
  have hnx := next_rng x
  generalize h13 : f_X2_awaitCycle t1.1 ((T + n1) + 1) t2.1 t2.2.1 t2.2.2.1 t2.2.2.2.1 t2.2.2.2.2.1 ot fp on t2.2.2.2.2.2 (nI P) = t13
  obtain ⟨n2, hn2, e2, W3, R3⟩ := wait_rel (ring2 := b.2) W2 R2 hP (by omega) h13
  have hn2c : (Int32.toNatClampNeg (f_X6_waitingUntil (nI P) (nI ((T + n1) + 1)))) = n2 := by rw [e2, nI_clamp (by omega)]
  have how : (Int32.toNatClampNeg (f_X3_ownTime (sg x))) = 1 := by rw [ow_1 hop]; decide
  have hwa := wordAt_nI t13.2.2.1 hP
  have hraw := (W3.2.2.2.1 P hP).1
  generalize h16 : f_X2_pass (((T + n1) + 1) + n2) t13.2.1 t13.2.2.1 t13.2.2.2.1 t13.2.2.2.2.1 t13.2.2.2.2.2.1 ot fp on t13.2.2.2.2.2.2 1 = t16
  obtain ⟨W5, R5⟩ := pass_rel (ring2 := (f_X7_waitsFor b.1 b.2 (nI P % 32)).2) (RW_works (o := 1) (v := sg (t13.2.2.1 P)) W3) (works_1 R3 (w20_sg (t13.2.2.1 P))) (by omega) h16
  rw [cx_12 hn1 h1 hX hop hp h2 h13 (perf_1 sta ac ov t13.2.2.1 fi li rin fo lo rout (nI P)) hn2c how h16 (by decide) (by decide) (by rw [wf_1]; decide) (by decide) (jt_1 ac ov), SL_next (SL_sg x)]
  dsimp only
  rw [hwa]
  unfold mEx
  rw [eo, hq, if_neg (by decide : ¬ (1 : Int32) = 13), if_neg (by decide : ¬ (1 : Int32) = 14), if_neg (by decide : ¬ (1 : Int32) = 0), if_neg (by decide : ¬ (1 : Int32) = 2), if_neg (by decide : ¬ (7 : Int32) < 1)]
  unfold f_X7_reads
  rw [if_neg (by decide : ¬ (1 : Int32) = 7), ix414 hP, hraw, sg_x7]
  exact ER_fin hH (by omega) (by omega) W5 R5 hnx
theorem ex_3 {T n1 H P : Nat} {dr pt ot fp on et wt sta ac ov fi li fo lo x : Int32} {bits ring slips temps rin rout cnt : Nat → Int32} {t1 : tyA} {t2 : tyP} {b : (Nat → Int32) × (Nat → Int32)} (B : BX T n1 H P dr pt ot fp on et wt sta ac ov fi li fo lo x bits ring slips temps rin rout cnt t1 t2 b) (eo : x &&& 15 = 3) : ER T et ot fp on rin fo (f_X2_executeNext et wt sta (nI H) ac ov T dr bits ring slips pt ot fp on temps fi li rin fo lo rout cnt) (mEx (nI H) x b) := by
  obtain ⟨hn1, h1, h2, hX, hp, hq, W2, R2, hn, hH, hP, hT⟩ := B
  have hop : f_X3_opcode (sg x) = 3 := (SL_opcode (SL_sg x)).trans eo
  have hnx := next_rng x
  generalize h13 : f_X2_awaitCycle t1.1 ((T + n1) + 1) t2.1 t2.2.1 t2.2.2.1 t2.2.2.2.1 t2.2.2.2.2.1 ot fp on t2.2.2.2.2.2 (nI P) = t13
  obtain ⟨n2, hn2, e2, W3, R3⟩ := wait_rel (ring2 := b.2) W2 R2 hP (by omega) h13
  have hn2c : (Int32.toNatClampNeg (f_X6_waitingUntil (nI P) (nI ((T + n1) + 1)))) = n2 := by rw [e2, nI_clamp (by omega)]
  have how : (Int32.toNatClampNeg (f_X3_ownTime (sg x))) = 1 := by rw [ow_3 hop]; decide
  have hwa := wordAt_nI t13.2.2.1 hP
  have hraw := (W3.2.2.2.1 P hP).1
  generalize h16 : f_X2_pass (((T + n1) + 1) + n2) t13.2.1 t13.2.2.1 t13.2.2.2.1 t13.2.2.2.2.1 t13.2.2.2.2.2.1 ot fp on t13.2.2.2.2.2.2 1 = t16
  obtain ⟨W5, R5⟩ := pass_rel (ring2 := (f_X7_waitsFor b.1 b.2 (nI P % 32)).2) (RW_works (o := 3) (v := sg (t13.2.2.1 P)) W3) (works_3 R3 (w20_sg (t13.2.2.1 P))) (by omega) h16
  rw [cx_12 hn1 h1 hX hop hp h2 h13 (perf_3 sta ac ov t13.2.2.1 fi li rin fo lo rout (nI P)) hn2c how h16 (by decide) (by decide) (by rw [wf_3]; decide) (by decide) (jt_3 ac ov), SL_next (SL_sg x)]
  dsimp only
  rw [hwa]
  unfold mEx
  rw [eo, hq, if_neg (by decide : ¬ (3 : Int32) = 13), if_neg (by decide : ¬ (3 : Int32) = 14), if_neg (by decide : ¬ (3 : Int32) = 0), if_neg (by decide : ¬ (3 : Int32) = 2), if_neg (by decide : ¬ (7 : Int32) < 3)]
  unfold f_X7_reads
  rw [if_neg (by decide : ¬ (3 : Int32) = 7), ix414 hP, hraw, sg_x7]
  exact ER_fin hH (by omega) (by omega) W5 R5 hnx
theorem ex_4 {T n1 H P : Nat} {dr pt ot fp on et wt sta ac ov fi li fo lo x : Int32} {bits ring slips temps rin rout cnt : Nat → Int32} {t1 : tyA} {t2 : tyP} {b : (Nat → Int32) × (Nat → Int32)} (B : BX T n1 H P dr pt ot fp on et wt sta ac ov fi li fo lo x bits ring slips temps rin rout cnt t1 t2 b) (eo : x &&& 15 = 4) : ER T et ot fp on rin fo (f_X2_executeNext et wt sta (nI H) ac ov T dr bits ring slips pt ot fp on temps fi li rin fo lo rout cnt) (mEx (nI H) x b) := by
  obtain ⟨hn1, h1, h2, hX, hp, hq, W2, R2, hn, hH, hP, hT⟩ := B
  have hop : f_X3_opcode (sg x) = 4 := (SL_opcode (SL_sg x)).trans eo
  have hnx := next_rng x
  generalize h13 : f_X2_awaitCycle t1.1 ((T + n1) + 1) t2.1 t2.2.1 t2.2.2.1 t2.2.2.2.1 t2.2.2.2.2.1 ot fp on t2.2.2.2.2.2 (nI P) = t13
  obtain ⟨n2, hn2, e2, W3, R3⟩ := wait_rel (ring2 := b.2) W2 R2 hP (by omega) h13
  have hn2c : (Int32.toNatClampNeg (f_X6_waitingUntil (nI P) (nI ((T + n1) + 1)))) = n2 := by rw [e2, nI_clamp (by omega)]
  have how : (Int32.toNatClampNeg (f_X3_ownTime (sg x))) = 1 := by rw [ow_4 hop]; decide
  have hwa := wordAt_nI t13.2.2.1 hP
  have hraw := (W3.2.2.2.1 P hP).1
  generalize h16 : f_X2_pass (((T + n1) + 1) + n2) t13.2.1 t13.2.2.1 t13.2.2.2.1 t13.2.2.2.2.1 t13.2.2.2.2.2.1 ot fp on t13.2.2.2.2.2.2 1 = t16
  obtain ⟨W5, R5⟩ := pass_rel (ring2 := (f_X7_waitsFor b.1 b.2 (nI P % 32)).2) (RW_works (o := 4) (v := sg (t13.2.2.1 P)) W3) (works_4 R3 (w20_sg (t13.2.2.1 P))) (by omega) h16
  rw [cx_12 hn1 h1 hX hop hp h2 h13 (perf_4 sta ac ov t13.2.2.1 fi li rin fo lo rout (nI P)) hn2c how h16 (by decide) (by decide) (by rw [wf_4]; decide) (by decide) (jt_4 ac ov), SL_next (SL_sg x)]
  dsimp only
  rw [hwa]
  unfold mEx
  rw [eo, hq, if_neg (by decide : ¬ (4 : Int32) = 13), if_neg (by decide : ¬ (4 : Int32) = 14), if_neg (by decide : ¬ (4 : Int32) = 0), if_neg (by decide : ¬ (4 : Int32) = 2), if_neg (by decide : ¬ (7 : Int32) < 4)]
  unfold f_X7_reads
  rw [if_neg (by decide : ¬ (4 : Int32) = 7), ix414 hP, hraw, sg_x7]
  exact ER_fin hH (by omega) (by omega) W5 R5 hnx
theorem ex_5 {T n1 H P : Nat} {dr pt ot fp on et wt sta ac ov fi li fo lo x : Int32} {bits ring slips temps rin rout cnt : Nat → Int32} {t1 : tyA} {t2 : tyP} {b : (Nat → Int32) × (Nat → Int32)} (B : BX T n1 H P dr pt ot fp on et wt sta ac ov fi li fo lo x bits ring slips temps rin rout cnt t1 t2 b) (eo : x &&& 15 = 5) : ER T et ot fp on rin fo (f_X2_executeNext et wt sta (nI H) ac ov T dr bits ring slips pt ot fp on temps fi li rin fo lo rout cnt) (mEx (nI H) x b) := by
  obtain ⟨hn1, h1, h2, hX, hp, hq, W2, R2, hn, hH, hP, hT⟩ := B
  have hop : f_X3_opcode (sg x) = 5 := (SL_opcode (SL_sg x)).trans eo
  have hnx := next_rng x
  generalize h13 : f_X2_awaitCycle t1.1 ((T + n1) + 1) t2.1 t2.2.1 t2.2.2.1 t2.2.2.2.1 t2.2.2.2.2.1 ot fp on t2.2.2.2.2.2 (nI P) = t13
  obtain ⟨n2, hn2, e2, W3, R3⟩ := wait_rel (ring2 := b.2) W2 R2 hP (by omega) h13
  have hn2c : (Int32.toNatClampNeg (f_X6_waitingUntil (nI P) (nI ((T + n1) + 1)))) = n2 := by rw [e2, nI_clamp (by omega)]
  have how : (Int32.toNatClampNeg (f_X3_ownTime (sg x))) = 1 := by rw [ow_5 hop]; decide
  have hwa := wordAt_nI t13.2.2.1 hP
  have hraw := (W3.2.2.2.1 P hP).1
  generalize h16 : f_X2_pass (((T + n1) + 1) + n2) t13.2.1 t13.2.2.1 t13.2.2.2.1 t13.2.2.2.2.1 t13.2.2.2.2.2.1 ot fp on t13.2.2.2.2.2.2 1 = t16
  obtain ⟨W5, R5⟩ := pass_rel (ring2 := (f_X7_waitsFor b.1 b.2 (nI P % 32)).2) (RW_works (o := 5) (v := sg (t13.2.2.1 P)) W3) (works_5 R3 (w20_sg (t13.2.2.1 P))) (by omega) h16
  rw [cx_12 hn1 h1 hX hop hp h2 h13 (perf_5 sta ac ov t13.2.2.1 fi li rin fo lo rout (nI P)) hn2c how h16 (by decide) (by decide) (by rw [wf_5]; decide) (by decide) (jt_5 ac ov), SL_next (SL_sg x)]
  dsimp only
  rw [hwa]
  unfold mEx
  rw [eo, hq, if_neg (by decide : ¬ (5 : Int32) = 13), if_neg (by decide : ¬ (5 : Int32) = 14), if_neg (by decide : ¬ (5 : Int32) = 0), if_neg (by decide : ¬ (5 : Int32) = 2), if_neg (by decide : ¬ (7 : Int32) < 5)]
  unfold f_X7_reads
  rw [if_neg (by decide : ¬ (5 : Int32) = 7), ix414 hP, hraw, sg_x7]
  exact ER_fin hH (by omega) (by omega) W5 R5 hnx
theorem ex_6 {T n1 H P : Nat} {dr pt ot fp on et wt sta ac ov fi li fo lo x : Int32} {bits ring slips temps rin rout cnt : Nat → Int32} {t1 : tyA} {t2 : tyP} {b : (Nat → Int32) × (Nat → Int32)} (B : BX T n1 H P dr pt ot fp on et wt sta ac ov fi li fo lo x bits ring slips temps rin rout cnt t1 t2 b) (eo : x &&& 15 = 6) : ER T et ot fp on rin fo (f_X2_executeNext et wt sta (nI H) ac ov T dr bits ring slips pt ot fp on temps fi li rin fo lo rout cnt) (mEx (nI H) x b) := by
  obtain ⟨hn1, h1, h2, hX, hp, hq, W2, R2, hn, hH, hP, hT⟩ := B
  have hop : f_X3_opcode (sg x) = 6 := (SL_opcode (SL_sg x)).trans eo
  have hnx := next_rng x
  generalize h13 : f_X2_awaitCycle t1.1 ((T + n1) + 1) t2.1 t2.2.1 t2.2.2.1 t2.2.2.2.1 t2.2.2.2.2.1 ot fp on t2.2.2.2.2.2 (nI P) = t13
  obtain ⟨n2, hn2, e2, W3, R3⟩ := wait_rel (ring2 := b.2) W2 R2 hP (by omega) h13
  have hn2c : (Int32.toNatClampNeg (f_X6_waitingUntil (nI P) (nI ((T + n1) + 1)))) = n2 := by rw [e2, nI_clamp (by omega)]
  have how : (Int32.toNatClampNeg (f_X3_ownTime (sg x))) = 1 := by rw [ow_6 hop]; decide
  have hwa := wordAt_nI t13.2.2.1 hP
  have hraw := (W3.2.2.2.1 P hP).1
  generalize h16 : f_X2_pass (((T + n1) + 1) + n2) t13.2.1 t13.2.2.1 t13.2.2.2.1 t13.2.2.2.2.1 t13.2.2.2.2.2.1 ot fp on t13.2.2.2.2.2.2 1 = t16
  obtain ⟨W5, R5⟩ := pass_rel (ring2 := (f_X7_waitsFor b.1 b.2 (nI P % 32)).2) (RW_works (o := 6) (v := sg (t13.2.2.1 P)) W3) (works_6 R3 (w20_sg (t13.2.2.1 P))) (by omega) h16
  rw [cx_12 hn1 h1 hX hop hp h2 h13 (perf_6 sta ac ov t13.2.2.1 fi li rin fo lo rout (nI P)) hn2c how h16 (by decide) (by decide) (by rw [wf_6]; decide) (by decide) (jt_6 ac ov), SL_next (SL_sg x)]
  dsimp only
  rw [hwa]
  unfold mEx
  rw [eo, hq, if_neg (by decide : ¬ (6 : Int32) = 13), if_neg (by decide : ¬ (6 : Int32) = 14), if_neg (by decide : ¬ (6 : Int32) = 0), if_neg (by decide : ¬ (6 : Int32) = 2), if_neg (by decide : ¬ (7 : Int32) < 6)]
  unfold f_X7_reads
  rw [if_neg (by decide : ¬ (6 : Int32) = 7), ix414 hP, hraw, sg_x7]
  exact ER_fin hH (by omega) (by omega) W5 R5 hnx
theorem ex_7 {T n1 H P : Nat} {dr pt ot fp on et wt sta ac ov fi li fo lo x : Int32} {bits ring slips temps rin rout cnt : Nat → Int32} {t1 : tyA} {t2 : tyP} {b : (Nat → Int32) × (Nat → Int32)} (B : BX T n1 H P dr pt ot fp on et wt sta ac ov fi li fo lo x bits ring slips temps rin rout cnt t1 t2 b) (eo : x &&& 15 = 7) : ER T et ot fp on rin fo (f_X2_executeNext et wt sta (nI H) ac ov T dr bits ring slips pt ot fp on temps fi li rin fo lo rout cnt) (mEx (nI H) x b) := by
  obtain ⟨hn1, h1, h2, hX, hp, hq, W2, R2, hn, hH, hP, hT⟩ := B
  have hop : f_X3_opcode (sg x) = 7 := (SL_opcode (SL_sg x)).trans eo
  have hnx := next_rng x
  generalize h13 : f_X2_awaitCycle t1.1 ((T + n1) + 1) t2.1 t2.2.1 t2.2.2.1 t2.2.2.2.1 t2.2.2.2.2.1 ot fp on t2.2.2.2.2.2 (nI P) = t13
  obtain ⟨n2, hn2, e2, W3, R3⟩ := wait_rel (ring2 := b.2) W2 R2 hP (by omega) h13
  have hn2c : (Int32.toNatClampNeg (f_X6_waitingUntil (nI P) (nI ((T + n1) + 1)))) = n2 := by rw [e2, nI_clamp (by omega)]
  have how : (Int32.toNatClampNeg (f_X3_ownTime (sg x))) = 21 := by rw [ow_7 hop]; decide
  have hwa := wordAt_nI t13.2.2.1 hP
  have hraw := (W3.2.2.2.1 P hP).1
  generalize h16 : f_X2_pass (((T + n1) + 1) + n2) t13.2.1 t13.2.2.1 t13.2.2.2.1 t13.2.2.2.2.1 t13.2.2.2.2.2.1 ot fp on t13.2.2.2.2.2.2 21 = t16
  obtain ⟨W5, R5⟩ := pass_rel (ring2 := (f_X7_waitsFor b.1 b.2 (nI P % 32)).2) (RW_works (o := 7) (v := sg (t13.2.2.1 P)) W3) (works_7 R3 (w20_sg (t13.2.2.1 P))) (by omega) h16
  rw [cx_12 hn1 h1 hX hop hp h2 h13 (perf_7 sta ac ov t13.2.2.1 fi li rin fo lo rout (nI P)) hn2c how h16 (by decide) (by decide) (by rw [wf_7]; decide) (by decide) (jt_7 ac ov), SL_next (SL_sg x)]
  dsimp only
  rw [hwa]
  unfold mEx
  rw [eo, hq, if_neg (by decide : ¬ (7 : Int32) = 13), if_neg (by decide : ¬ (7 : Int32) = 14), if_neg (by decide : ¬ (7 : Int32) = 0), if_neg (by decide : ¬ (7 : Int32) = 2), if_neg (by decide : ¬ (7 : Int32) < 7)]
  unfold f_X7_reads
  rw [if_pos rfl, ix414 hP, hraw, sg_x7]
  exact ER_fin hH (by omega) (by omega) W5 R5 hnx
theorem ex_2 {T n1 H P : Nat} {dr pt ot fp on et wt sta ac ov fi li fo lo x : Int32} {bits ring slips temps rin rout cnt : Nat → Int32} {t1 : tyA} {t2 : tyP} {b : (Nat → Int32) × (Nat → Int32)} (B : BX T n1 H P dr pt ot fp on et wt sta ac ov fi li fo lo x bits ring slips temps rin rout cnt t1 t2 b) (eo : x &&& 15 = 2) : ER T et ot fp on rin fo (f_X2_executeNext et wt sta (nI H) ac ov T dr bits ring slips pt ot fp on temps fi li rin fo lo rout cnt) (mEx (nI H) x b) := by
  obtain ⟨hn1, h1, h2, hX, hp, hq, W2, R2, hn, hH, hP, hT⟩ := B
  have hop : f_X3_opcode (sg x) = 2 := (SL_opcode (SL_sg x)).trans eo
  have hnx := next_rng x
  generalize h13 : f_X2_awaitCycle t1.1 ((T + n1) + 1) t2.1 t2.2.1 t2.2.2.1 t2.2.2.2.1 t2.2.2.2.2.1 ot fp on t2.2.2.2.2.2 (nI P) = t13
  obtain ⟨n2, hn2, e2, W3, R3⟩ := wait_rel (ring2 := b.2) W2 R2 hP (by omega) h13
  have hn2c : (Int32.toNatClampNeg (f_X6_waitingUntil (nI P) (nI ((T + n1) + 1)))) = n2 := by rw [e2, nI_clamp (by omega)]
  have how : (Int32.toNatClampNeg (f_X3_ownTime (sg x))) = 1 := by rw [ow_2 hop]; decide
  have h1c : (f_X7_waitsFor b.1 b.2 (nI P % 32)).1 1 = ac := R3.1.1
  generalize h16 : f_X2_pass (((T + n1) + 1) + n2) t13.2.1 (f_X5_putWord t13.2.2.1 (nI P) ac) t13.2.2.2.1 t13.2.2.2.2.1 t13.2.2.2.2.2.1 ot fp on t13.2.2.2.2.2.2 1 = t16
  obtain ⟨W5, R5⟩ := pass_rel (ring2 := (f_X7_waitsFor b.1 b.2 (nI P % 32)).2) (W3.put hP ac) (R3.hi (by omega)) (by omega) h16
  rw [cx_12 hn1 h1 hX hop hp h2 h13 (perf_2 sta ac ov t13.2.2.1 fi li rin fo lo rout (nI P)) hn2c how h16 (by decide) (by decide) (by rw [wf_2]; decide) (by decide) (jt_2 ac ov), SL_next (SL_sg x)]
  dsimp only
  unfold mEx
  rw [eo, hq, if_neg (by decide : ¬ (2 : Int32) = 13), if_neg (by decide : ¬ (2 : Int32) = 14), if_neg (by decide : ¬ (2 : Int32) = 0), if_pos rfl]
  unfold f_X7_stores
  rw [ix414 hP, h1c]
  exact ER_fin hH (by omega) (by omega) W5 R5 hnx
theorem ex_15 {T n1 H P : Nat} {dr pt ot fp on et wt sta ac ov fi li fo lo x : Int32} {bits ring slips temps rin rout cnt : Nat → Int32} {t1 : tyA} {t2 : tyP} {b : (Nat → Int32) × (Nat → Int32)} (B : BX T n1 H P dr pt ot fp on et wt sta ac ov fi li fo lo x bits ring slips temps rin rout cnt t1 t2 b) (eo : x &&& 15 = 15) : ER T et ot fp on rin fo (f_X2_executeNext et wt sta (nI H) ac ov T dr bits ring slips pt ot fp on temps fi li rin fo lo rout cnt) (mEx (nI H) x b) := by
  obtain ⟨hn1, h1, h2, hX, hp, hq, W2, R2, hn, hH, hP, hT⟩ := B
  have hop : f_X3_opcode (sg x) = 15 := (SL_opcode (SL_sg x)).trans eo
  have hnx := next_rng x
  generalize h13 : f_X2_awaitCycle t1.1 ((T + n1) + 1) t2.1 t2.2.1 t2.2.2.1 t2.2.2.2.1 t2.2.2.2.2.1 ot fp on t2.2.2.2.2.2 (nI P) = t13
  obtain ⟨n2, hn2, e2, W3, R3⟩ := wait_rel (ring2 := b.2) W2 R2 hP (by omega) h13
  have hn2c : (Int32.toNatClampNeg (f_X6_waitingUntil (nI P) (nI ((T + n1) + 1)))) = n2 := by rw [e2, nI_clamp (by omega)]
  have hwa := wordAt_nI t13.2.2.1 hP
  have hraw := (W3.2.2.2.1 P hP).1
  have hpf := perf_15 sta ac ov t13.2.2.1 fi li rin fo lo rout (nI P)
  rw [hwa] at hpf
  have hcd : f_X7_wrap ((Int32.toInt64 (sg (t13.2.2.1 P))) - 1) = f_X6_wrap ((Int32.toInt64 (sg (t13.2.2.1 P))) - 1) := (wrap_eq _).symm
  have hw20 : w20 (f_X6_wrap ((Int32.toInt64 (sg (t13.2.2.1 P))) - 1)) := w20_wrap _
  generalize f_X6_wrap ((Int32.toInt64 (sg (t13.2.2.1 P))) - 1) = a9 at *
  generalize h18 : f_X2_pass (((T + n1) + 1) + n2) t13.2.1 t13.2.2.1 t13.2.2.2.1 t13.2.2.2.2.1 t13.2.2.2.2.2.1 ot fp on t13.2.2.2.2.2.2 32 = t18
  obtain ⟨W5, R5⟩ := pass_rel (ring2 := (f_X7_waitsFor b.1 b.2 (nI P % 32)).2) (W3.low (j := 1) (x := a9) (by omega)) (R3.ac hw20) (by omega) h18
  have h1c := R5.1.1
  generalize h19 : f_X2_pass ((((T + n1) + 1) + n2) + 32) t18.1 (f_X5_putWord t18.2.1 (nI P) a9) t18.2.2.1 t18.2.2.2.1 t18.2.2.2.2.1 ot fp on t18.2.2.2.2.2 1 = t19
  obtain ⟨W6, R6⟩ := pass_rel (ring2 := (f_X7_passes (upd (f_X7_waitsFor b.1 b.2 (nI P % 32)).1 1 a9) (f_X7_waitsFor b.1 b.2 (nI P % 32)).2 32).2) (W5.put hP a9) (R5.hi (j := 414 + P) (x := a9 &&& 1048575) (by omega)) (by omega) h19
  rw [cx_10 hn1 h1 hX hop hp h2 h13 hpf hn2c h18 h19 (by decide) (by decide) (by rw [wf_15]; decide) rfl (jt_15 ac ov), SL_next (SL_sg x)]
  dsimp only
  unfold mEx
  rw [eo, hq, if_neg (by decide : ¬ (15 : Int32) = 13), if_neg (by decide : ¬ (15 : Int32) = 14), if_neg (by decide : ¬ (15 : Int32) = 0), if_neg (by decide : ¬ (15 : Int32) = 2), if_pos (by decide : (7 : Int32) < 15), if_neg (by decide : ¬ (15 : Int32) = 8), if_neg (by decide : ¬ (15 : Int32) = 9), if_pos (by decide : (12 : Int32) < 15), if_pos rfl]
  unfold f_X7_countsDown
  rw [ix414 hP, hraw, sg_x7, hcd, h1c]
  exact ER_fin hH (by omega) (by omega) W6 R6 hnx
theorem ex_0 {T n1 H P : Nat} {dr pt ot fp on et wt sta ac ov fi li fo lo x : Int32} {bits ring slips temps rin rout cnt : Nat → Int32} {t1 : tyA} {t2 : tyP} {b : (Nat → Int32) × (Nat → Int32)} (B : BX T n1 H P dr pt ot fp on et wt sta ac ov fi li fo lo x bits ring slips temps rin rout cnt t1 t2 b) (eo : x &&& 15 = 0) : ER T et ot fp on rin fo (f_X2_executeNext et wt sta (nI H) ac ov T dr bits ring slips pt ot fp on temps fi li rin fo lo rout cnt) (mEx (nI H) x b) := by
  obtain ⟨hn1, h1, h2, hX, hp, hq, W2, R2, hn, hH, hP, hT⟩ := B
  have hop : f_X3_opcode (sg x) = 0 := (SL_opcode (SL_sg x)).trans eo
  have hnx := next_rng x
  have how : (Int32.toNatClampNeg (f_X3_ownTime (sg x))) = 0 := by rw [ow_0 hop]; decide
  generalize h8 : f_X2_pass ((T + n1) + 1) t2.1 t2.2.1 t2.2.2.1 t2.2.2.2.1 t2.2.2.2.2.1 ot fp on t2.2.2.2.2.2 0 = t8
  obtain ⟨W5, R5⟩ := pass_rel (ring2 := b.2) W2 R2 (by omega) h8
  have hb0 : (f_X7_passes b.1 b.2 0).1 = b.1 := rfl
  rw [hb0] at W5 R5
  rw [cx_8 hn1 h1 hX hop hp h2 (perf_0 sta ac ov t2.2.1 fi li rin fo lo rout (nI P)) how h8 (by decide) (by decide) wf_0 (by decide) (jt_0 ac ov), SL_next (SL_sg x)]
  dsimp only
  unfold mEx
  rw [eo, if_neg (by decide : ¬ (0 : Int32) = 13), if_neg (by decide : ¬ (0 : Int32) = 14), if_pos rfl]
  exact ER_fin hH (by omega) (by omega) (W5.low (by omega)) R5.sta hnx
theorem ex_8 {T n1 H P : Nat} {dr pt ot fp on et wt sta ac ov fi li fo lo x : Int32} {bits ring slips temps rin rout cnt : Nat → Int32} {t1 : tyA} {t2 : tyP} {b : (Nat → Int32) × (Nat → Int32)} (B : BX T n1 H P dr pt ot fp on et wt sta ac ov fi li fo lo x bits ring slips temps rin rout cnt t1 t2 b) (eo : x &&& 15 = 8) : ER T et ot fp on rin fo (f_X2_executeNext et wt sta (nI H) ac ov T dr bits ring slips pt ot fp on temps fi li rin fo lo rout cnt) (mEx (nI H) x b) := by
  obtain ⟨hn1, h1, h2, hX, hp, hq, W2, R2, hn, hH, hP, hT⟩ := B
  have hop : f_X3_opcode (sg x) = 8 := (SL_opcode (SL_sg x)).trans eo
  have hnx := next_rng x
  have hm : P % 32 < 32 := Nat.mod_lt _ (by decide)
  have hcy : f_X6_cycleOf (nI P) = nI (P % 32) := cyc_nI (by omega)
  have hmo : nI P % 32 = nI (P % 32) := mod32_nI (by omega)
  have l1 : (1 : Int32) = nI 1 := rfl
  have how : (Int32.toNatClampNeg (f_X3_ownTime (sg x))) = 1 + P % 32 := by rw [ow_8 hop, hp, hcy, l1]; exact ixA 1 (P % 32) (by omega)
  have hix : (Int32.toNatClampNeg (1 + nI (P % 32))) = 1 + P % 32 := ixA 1 (P % 32) (by omega)
  have hpf := perf_8 sta ac ov t2.2.1 fi li rin fo lo rout (nI P)
  rw [hcy] at hpf
  have h1c : b.1 1 = ac := R2.1.1
  generalize h8 : f_X2_pass ((T + n1) + 1) t2.1 t2.2.1 t2.2.2.1 t2.2.2.2.1 t2.2.2.2.2.1 ot fp on t2.2.2.2.2.2 (1 + P % 32) = t8
  obtain ⟨W5, R5⟩ := pass_rel (ring2 := b.2) (RW_takes (v := (Int32.toInt64 ac) <<< ((Int32.toInt64 (nI (P % 32))) &&& 63)) (f := 0) W2) (takes_rel0 R2) (by omega) h8
  rw [cx_8 hn1 h1 hX hop hp h2 hpf how h8 (by decide) (by decide) wf_8 (by decide) (jt_8 ac ov), SL_next (SL_sg x)]
  dsimp only
  unfold mEx
  rw [eo, hq, if_neg (by decide : ¬ (8 : Int32) = 13), if_neg (by decide : ¬ (8 : Int32) = 14), if_neg (by decide : ¬ (8 : Int32) = 0), if_neg (by decide : ¬ (8 : Int32) = 2), if_pos (by decide : (7 : Int32) < 8), if_pos rfl, hmo]
  unfold f_X7_shifts
  rw [if_pos rfl, hix, h1c]
  exact ER_fin hH (by omega) (by omega) W5 R5 hnx
theorem ex_9 {T n1 H P : Nat} {dr pt ot fp on et wt sta ac ov fi li fo lo x : Int32} {bits ring slips temps rin rout cnt : Nat → Int32} {t1 : tyA} {t2 : tyP} {b : (Nat → Int32) × (Nat → Int32)} (B : BX T n1 H P dr pt ot fp on et wt sta ac ov fi li fo lo x bits ring slips temps rin rout cnt t1 t2 b) (eo : x &&& 15 = 9) : ER T et ot fp on rin fo (f_X2_executeNext et wt sta (nI H) ac ov T dr bits ring slips pt ot fp on temps fi li rin fo lo rout cnt) (mEx (nI H) x b) := by
  obtain ⟨hn1, h1, h2, hX, hp, hq, W2, R2, hn, hH, hP, hT⟩ := B
  have hop : f_X3_opcode (sg x) = 9 := (SL_opcode (SL_sg x)).trans eo
  have hnx := next_rng x
  have hm : P % 32 < 32 := Nat.mod_lt _ (by decide)
  have hcy : f_X6_cycleOf (nI P) = nI (P % 32) := cyc_nI (by omega)
  have hmo : nI P % 32 = nI (P % 32) := mod32_nI (by omega)
  have l1 : (1 : Int32) = nI 1 := rfl
  have how : (Int32.toNatClampNeg (f_X3_ownTime (sg x))) = 1 + P % 32 := by rw [ow_9 hop, hp, hcy, l1]; exact ixA 1 (P % 32) (by omega)
  have hix : (Int32.toNatClampNeg (1 + nI (P % 32))) = 1 + P % 32 := ixA 1 (P % 32) (by omega)
  have hpf := perf_9 sta ac ov t2.2.1 fi li rin fo lo rout (nI P)
  rw [hcy] at hpf
  have h1c : b.1 1 = ac := R2.1.1
  generalize h8 : f_X2_pass ((T + n1) + 1) t2.1 t2.2.1 t2.2.2.1 t2.2.2.2.1 t2.2.2.2.2.1 ot fp on t2.2.2.2.2.2 (1 + P % 32) = t8
  have hsh := shrL_eq hm R2.2.2.2.2.2.2
  have R9 := takes_rel0 (v := (Int32.toInt64 ac) >>> ((Int32.toInt64 (nI (P % 32))) &&& 63)) R2
  rw [wrap_eq, hsh.1] at R9
  obtain ⟨W5, R5⟩ := pass_rel (ring2 := b.2) (RW_takes (v := (Int32.toInt64 ac) >>> ((Int32.toInt64 (nI (P % 32))) &&& 63)) (f := 0) W2) R9 (by omega) h8
  rw [cx_8 hn1 h1 hX hop hp h2 hpf how h8 (by decide) (by decide) wf_9 (by decide) (jt_9 ac ov), SL_next (SL_sg x)]
  dsimp only
  unfold mEx
  rw [eo, hq, if_neg (by decide : ¬ (9 : Int32) = 13), if_neg (by decide : ¬ (9 : Int32) = 14), if_neg (by decide : ¬ (9 : Int32) = 0), if_neg (by decide : ¬ (9 : Int32) = 2), if_pos (by decide : (7 : Int32) < 9), if_neg (by decide : ¬ (9 : Int32) = 8), if_pos rfl, hmo]
  unfold f_X7_shifts
  rw [if_neg (by decide : ¬ (9 : Int32) = 8), hix, h1c]
  exact ER_fin hH (by omega) (by omega) W5 R5 hnx
theorem RR.ov0 {et wt sta he ac ov fi li fo lo : Int32} {rin rout cnt w : Nat → Int32} (h : RR et wt sta he ac ov fi li rin fo lo rout cnt w) : RR et wt sta he ac ov fi li rin fo lo rout cnt (upd w 2 (w 2)) := by
  have h2 : w 2 = ov := h.1.2.1
  have hov : g01 ov := h.2.2.2.2.2.1
  rw [h2]
  exact h.ov hov
theorem isT12_0 {w : Nat → Int32} (h : w 2 = 0) : f_X7_isTaken w 12 = (0, upd w 2 0) := by
  unfold f_X7_isTaken
  rw [if_neg (by decide : ¬ (12 : Int32) = 10), if_neg (by decide : ¬ (12 : Int32) = 11), h, if_neg (by decide : ¬ (0 : Int32) = 1), if_pos rfl]
theorem isT12_1 {w : Nat → Int32} (h : w 2 = 1) : f_X7_isTaken w 12 = (1, upd w 2 0) := by
  unfold f_X7_isTaken
  rw [if_neg (by decide : ¬ (12 : Int32) = 10), if_neg (by decide : ¬ (12 : Int32) = 11), if_pos h, if_pos rfl]
theorem ex_10 {T n1 H P : Nat} {dr pt ot fp on et wt sta ac ov fi li fo lo x : Int32} {bits ring slips temps rin rout cnt : Nat → Int32} {t1 : tyA} {t2 : tyP} {b : (Nat → Int32) × (Nat → Int32)} (B : BX T n1 H P dr pt ot fp on et wt sta ac ov fi li fo lo x bits ring slips temps rin rout cnt t1 t2 b) (eo : x &&& 15 = 10) : ER T et ot fp on rin fo (f_X2_executeNext et wt sta (nI H) ac ov T dr bits ring slips pt ot fp on temps fi li rin fo lo rout cnt) (mEx (nI H) x b) := by
  obtain ⟨hn1, h1, h2, hX, hp, hq, W2, R2, hn, hH, hP, hT⟩ := B
  have hop : f_X3_opcode (sg x) = 10 := (SL_opcode (SL_sg x)).trans eo
  have hnx := next_rng x
  have hox := operand_rng x
  rw [hq] at hox
  have how : (Int32.toNatClampNeg (f_X3_ownTime (sg x))) = 1 := by rw [ow_10 hop]; decide
  generalize h8 : f_X2_pass ((T + n1) + 1) t2.1 t2.2.1 t2.2.2.1 t2.2.2.2.1 t2.2.2.2.2.1 ot fp on t2.2.2.2.2.2 1 = t8
  obtain ⟨W5, R5⟩ := pass_rel (ring2 := b.2) W2 R2 (by omega) h8
  have h1c := R5.1.1
  have h2c := R5.1.2.1
  unfold mEx
  rw [eo, hq, if_neg (by decide : ¬ (10 : Int32) = 13), if_neg (by decide : ¬ (10 : Int32) = 14), if_neg (by decide : ¬ (10 : Int32) = 0), if_neg (by decide : ¬ (10 : Int32) = 2), if_pos (by decide : (7 : Int32) < 10), if_neg (by decide : ¬ (10 : Int32) = 8), if_neg (by decide : ¬ (10 : Int32) = 9), if_neg (by decide : ¬ (12 : Int32) < 10)]
  generalize f_X7_passes b.1 b.2 1 = c9 at *
  unfold f_X7_isTaken
  rw [if_pos rfl, h1c]
  by_cases j : 0 ≤ ac
  · rw [if_pos j, if_pos rfl]
    rw [cx_8 hn1 h1 hX hop hp h2 (perf_10 sta ac ov t2.2.1 fi li rin fo lo rout (nI P)) how h8 (by decide) (by decide) wf_10 (by decide) ((jt_10 ac ov).trans (if_pos j)), SL_next (SL_sg x)]
    dsimp only
    exact ER_fin hH (by omega) (by omega) (W5.low (by omega)) R5.ov0 hnx
  · rw [if_neg j, if_neg (by decide : ¬ (1 : Int32) = 0)]
    rw [cx_9 hn1 h1 hX hop hp h2 (perf_10 sta ac ov t2.2.1 fi li rin fo lo rout (nI P)) how h8 (by decide) (by decide) wf_10 (by decide) (by rw [jt_10, if_neg j]; decide)]
    dsimp only
    exact ER_fin hH (by omega) (by omega) (W5.low (by omega)) R5.ov0 hox
theorem ex_11 {T n1 H P : Nat} {dr pt ot fp on et wt sta ac ov fi li fo lo x : Int32} {bits ring slips temps rin rout cnt : Nat → Int32} {t1 : tyA} {t2 : tyP} {b : (Nat → Int32) × (Nat → Int32)} (B : BX T n1 H P dr pt ot fp on et wt sta ac ov fi li fo lo x bits ring slips temps rin rout cnt t1 t2 b) (eo : x &&& 15 = 11) : ER T et ot fp on rin fo (f_X2_executeNext et wt sta (nI H) ac ov T dr bits ring slips pt ot fp on temps fi li rin fo lo rout cnt) (mEx (nI H) x b) := by
  obtain ⟨hn1, h1, h2, hX, hp, hq, W2, R2, hn, hH, hP, hT⟩ := B
  have hop : f_X3_opcode (sg x) = 11 := (SL_opcode (SL_sg x)).trans eo
  have hnx := next_rng x
  have hox := operand_rng x
  rw [hq] at hox
  have how : (Int32.toNatClampNeg (f_X3_ownTime (sg x))) = 1 := by rw [ow_11 hop]; decide
  generalize h8 : f_X2_pass ((T + n1) + 1) t2.1 t2.2.1 t2.2.2.1 t2.2.2.2.1 t2.2.2.2.2.1 ot fp on t2.2.2.2.2.2 1 = t8
  obtain ⟨W5, R5⟩ := pass_rel (ring2 := b.2) W2 R2 (by omega) h8
  have h1c := R5.1.1
  have h2c := R5.1.2.1
  unfold mEx
  rw [eo, hq, if_neg (by decide : ¬ (11 : Int32) = 13), if_neg (by decide : ¬ (11 : Int32) = 14), if_neg (by decide : ¬ (11 : Int32) = 0), if_neg (by decide : ¬ (11 : Int32) = 2), if_pos (by decide : (7 : Int32) < 11), if_neg (by decide : ¬ (11 : Int32) = 8), if_neg (by decide : ¬ (11 : Int32) = 9), if_neg (by decide : ¬ (12 : Int32) < 11)]
  generalize f_X7_passes b.1 b.2 1 = c9 at *
  unfold f_X7_isTaken
  rw [if_neg (by decide : ¬ (11 : Int32) = 10), if_pos rfl, h1c]
  by_cases j : ac = 0
  · rw [if_pos j, if_neg (by decide : ¬ (1 : Int32) = 0)]
    rw [cx_9 hn1 h1 hX hop hp h2 (perf_11 sta ac ov t2.2.1 fi li rin fo lo rout (nI P)) how h8 (by decide) (by decide) wf_11 (by decide) (by rw [jt_11, if_pos j]; decide)]
    dsimp only
    exact ER_fin hH (by omega) (by omega) (W5.low (by omega)) R5.ov0 hox
  · rw [if_neg j, if_pos rfl]
    rw [cx_8 hn1 h1 hX hop hp h2 (perf_11 sta ac ov t2.2.1 fi li rin fo lo rout (nI P)) how h8 (by decide) (by decide) wf_11 (by decide) ((jt_11 ac ov).trans (if_neg j)), SL_next (SL_sg x)]
    dsimp only
    exact ER_fin hH (by omega) (by omega) (W5.low (by omega)) R5.ov0 hnx
theorem ex_12 {T n1 H P : Nat} {dr pt ot fp on et wt sta ac ov fi li fo lo x : Int32} {bits ring slips temps rin rout cnt : Nat → Int32} {t1 : tyA} {t2 : tyP} {b : (Nat → Int32) × (Nat → Int32)} (B : BX T n1 H P dr pt ot fp on et wt sta ac ov fi li fo lo x bits ring slips temps rin rout cnt t1 t2 b) (eo : x &&& 15 = 12) : ER T et ot fp on rin fo (f_X2_executeNext et wt sta (nI H) ac ov T dr bits ring slips pt ot fp on temps fi li rin fo lo rout cnt) (mEx (nI H) x b) := by
  obtain ⟨hn1, h1, h2, hX, hp, hq, W2, R2, hn, hH, hP, hT⟩ := B
  have hop : f_X3_opcode (sg x) = 12 := (SL_opcode (SL_sg x)).trans eo
  have hnx := next_rng x
  have hox := operand_rng x
  rw [hq] at hox
  have how : (Int32.toNatClampNeg (f_X3_ownTime (sg x))) = 1 := by rw [ow_12 hop]; decide
  generalize h8 : f_X2_pass ((T + n1) + 1) t2.1 t2.2.1 t2.2.2.1 t2.2.2.2.1 t2.2.2.2.2.1 ot fp on t2.2.2.2.2.2 1 = t8
  obtain ⟨W5, R5⟩ := pass_rel (ring2 := b.2) W2 R2 (by omega) h8
  have h1c := R5.1.1
  have h2c := R5.1.2.1
  unfold mEx
  rw [eo, hq, if_neg (by decide : ¬ (12 : Int32) = 13), if_neg (by decide : ¬ (12 : Int32) = 14), if_neg (by decide : ¬ (12 : Int32) = 0), if_neg (by decide : ¬ (12 : Int32) = 2), if_pos (by decide : (7 : Int32) < 12), if_neg (by decide : ¬ (12 : Int32) = 8), if_neg (by decide : ¬ (12 : Int32) = 9), if_neg (by decide : ¬ (12 : Int32) < 12)]
  generalize f_X7_passes b.1 b.2 1 = c9 at *
  rcases R2.2.2.2.2.2.1 with j | j
  · rw [isT12_0 (h2c.trans j)]
    dsimp only
    rw [if_pos rfl]
    rw [cx_8 hn1 h1 hX hop hp h2 (perf_12 sta ac ov t2.2.1 fi li rin fo lo rout (nI P)) how h8 (by decide) (by decide) wf_12 (by decide) ((jt_12 ac ov).trans j), SL_next (SL_sg x)]
    dsimp only
    exact ER_fin hH (by omega) (by omega) (W5.low (by omega)) (R5.ov (x := 0) g01_0) hnx
  · rw [isT12_1 (h2c.trans j)]
    dsimp only
    rw [if_neg (by decide : ¬ (1 : Int32) = 0)]
    rw [cx_9 hn1 h1 hX hop hp h2 (perf_12 sta ac ov t2.2.1 fi li rin fo lo rout (nI P)) how h8 (by decide) (by decide) wf_12 (by decide) (by rw [jt_12, j]; decide)]
    dsimp only
    exact ER_fin hH (by omega) (by omega) (W5.low (by omega)) (R5.ov (x := 0) g01_0) hox
theorem ex_13 {T n1 H P : Nat} {dr pt ot fp on et wt sta ac ov fi li fo lo x : Int32} {bits ring slips temps rin rout cnt : Nat → Int32} {t1 : tyA} {t2 : tyP} {b : (Nat → Int32) × (Nat → Int32)} (B : BX T n1 H P dr pt ot fp on et wt sta ac ov fi li fo lo x bits ring slips temps rin rout cnt t1 t2 b) (eo : x &&& 15 = 13) : ER T et ot fp on rin fo (f_X2_executeNext et wt sta (nI H) ac ov T dr bits ring slips pt ot fp on temps fi li rin fo lo rout cnt) (mEx (nI H) x b) := by
  obtain ⟨hn1, h1, h2, hX, hp, hq, W2, R2, hn, hH, hP, hT⟩ := B
  have hop : f_X3_opcode (sg x) = 13 := (SL_opcode (SL_sg x)).trans eo
  have hnx := next_rng x
  have h12 : b.1 12 = li := R2.1.2.2.2.2.2.2.1
  unfold mEx
  rw [eo, if_pos rfl]
  unfold f_X7_comesIn
  by_cases j : li = 0
  · rw [if_pos (h12.trans j), if_pos rfl]
    rw [cx_0 hn1 h1 hX hop hp h2 rfl j]
    dsimp only
    exact ER_not (by omega) (by omega) (W2.low (by omega)) R2.sta (by decide)
  · rw [if_neg (fun q => j (h12.symm.trans q)), if_neg (by decide : ¬ (1 : Int32) = 0)]
    have how : (Int32.toNatClampNeg (f_X3_ownTime (sg x))) = 1 := by rw [ow_13 hop]; decide
    obtain ⟨i1, i2⟩ := in_rel R2 j
    generalize h8 : f_X2_pass ((T + n1) + 1) t2.1 t2.2.1 t2.2.2.1 t2.2.2.2.1 t2.2.2.2.2.1 ot fp on t2.2.2.2.2.2 1 = t8
    obtain ⟨W5, R5⟩ := pass_rel (ring2 := b.2) (W2.frame (fun j9 hj => i2 j9 (by omega) (by omega) (fun i _ => by omega))) i1 (by omega) h8
    rw [cx_1 hn1 h1 hX hop hp h2 (perf_13 sta ac ov t2.2.1 fi li rin fo lo rout (nI P)) how h8 rfl j (jt_13 ac ov), SL_next (SL_sg x)]
    dsimp only
    exact ER_fin hH (by omega) (by omega) W5 R5 hnx
theorem ex_14 {T n1 H P : Nat} {dr pt ot fp on et wt sta ac ov fi li fo lo x : Int32} {bits ring slips temps rin rout cnt : Nat → Int32} {t1 : tyA} {t2 : tyP} {b : (Nat → Int32) × (Nat → Int32)} (B : BX T n1 H P dr pt ot fp on et wt sta ac ov fi li fo lo x bits ring slips temps rin rout cnt t1 t2 b) (eo : x &&& 15 = 14) : ER T et ot fp on rin fo (f_X2_executeNext et wt sta (nI H) ac ov T dr bits ring slips pt ot fp on temps fi li rin fo lo rout cnt) (mEx (nI H) x b) := by
  obtain ⟨hn1, h1, h2, hX, hp, hq, W2, R2, hn, hH, hP, hT⟩ := B
  have hop : f_X3_opcode (sg x) = 14 := (SL_opcode (SL_sg x)).trans eo
  have hnx := next_rng x
  have h13 : b.1 13 = lo := R2.1.2.2.2.2.2.2.2
  obtain ⟨L, hL, eL⟩ : ∃ L, L ≤ 64 ∧ lo = nI L := by obtain ⟨F, L, q1, q2, q3, q4, -⟩ := R2.2.2.2.1; exact ⟨L, q2, q4⟩
  have hf := full_iff hL
  rw [← eL] at hf
  unfold mEx
  rw [eo, if_neg (by decide : ¬ (14 : Int32) = 13), if_pos rfl]
  by_cases j : f_X4_isFull lo = 0
  · have j2 : ¬ b.1 13 = 64 := fun q => hf.2.mp (h13.symm.trans q) (hf.1.mp j)
    have how : (Int32.toNatClampNeg (f_X3_ownTime (sg x))) = 1 := by rw [ow_14 hop]; decide
    obtain ⟨i1, i2⟩ := out_rel R2 j
    generalize h8 : f_X2_pass ((T + n1) + 1) t2.1 t2.2.1 t2.2.2.1 t2.2.2.2.1 t2.2.2.2.2.1 ot fp on t2.2.2.2.2.2 1 = t8
    obtain ⟨W5, R5⟩ := pass_rel (ring2 := b.2) (W2.frame (fun j9 hj => i2 j9 (by omega) (fun i _ => by omega))) i1 (by omega) h8
    rw [cx_3 hn1 h1 hX hop hp h2 (perf_14 sta ac ov t2.2.1 fi li rin fo lo rout (nI P)) how h8 (by decide) rfl j (jt_14 ac ov), SL_next (SL_sg x)]
    dsimp only
    unfold f_X7_goesOut
    rw [if_neg j2, if_neg (by decide : ¬ (1 : Int32) = 0)]
    exact ER_fin hH (by omega) (by omega) W5 R5 hnx
  · have j2 : b.1 13 = 64 := h13.trans (hf.2.mpr (fun q => j (hf.1.mpr q)))
    unfold f_X7_goesOut
    rw [if_pos j2, if_pos rfl]
    rw [cx_5 hn1 h1 hX hop hp h2 (by decide) rfl j]
    dsimp only
    exact ER_not (by omega) (by omega) (W2.low (by omega)) R2.sta (by decide)
theorem ex_all {T n1 H P : Nat} {dr pt ot fp on et wt sta ac ov fi li fo lo x : Int32} {bits ring slips temps rin rout cnt : Nat → Int32} {t1 : tyA} {t2 : tyP} {b : (Nat → Int32) × (Nat → Int32)} (B : BX T n1 H P dr pt ot fp on et wt sta ac ov fi li fo lo x bits ring slips temps rin rout cnt t1 t2 b) : ER T et ot fp on rin fo (f_X2_executeNext et wt sta (nI H) ac ov T dr bits ring slips pt ot fp on temps fi li rin fo lo rout cnt) (mEx (nI H) x b) := by
  have hr := gI_and15 x
  obtain ⟨o, ho, eo⟩ := of_rng (x := x &&& 15) (N := 16) (by decide) (by omega)
  rcases o with _ | _ | _ | _ | _ | _ | _ | _ | _ | _ | _ | _ | _ | _ | _ | _ | o
  · exact ex_0 B eo
  · exact ex_1 B eo
  · exact ex_2 B eo
  · exact ex_3 B eo
  · exact ex_4 B eo
  · exact ex_5 B eo
  · exact ex_6 B eo
  · exact ex_7 B eo
  · exact ex_8 B eo
  · exact ex_9 B eo
  · exact ex_10 B eo
  · exact ex_11 B eo
  · exact ex_12 B eo
  · exact ex_13 B eo
  · exact ex_14 B eo
  · exact ex_15 B eo
  · omega
theorem exec_rel {T : Nat} {dr pt ot fp on et wt sta he ac ov fi li fo lo : Int32} {bits ring ring2 slips temps rin rout cnt w : Nat → Int32} (hW : RW T dr bits slips pt ot fp on temps w) (hR : RR et wt sta he ac ov fi li rin fo lo rout cnt w) (hT : T + 200 < 190000000) :
    ER T et ot fp on rin fo (f_X2_executeNext et wt sta he ac ov T dr bits ring slips pt ot fp on temps fi li rin fo lo rout cnt) (f_X7_executes w ring2) := by
  obtain ⟨H, hH, eH⟩ := of_rng (N := 256) (by decide) hR.2.2.2.2.1
  subst eH
  have h3 : w 3 = nI H := hR.1.2.2.1
  generalize h1 : f_X2_awaitCycle wt T dr bits ring slips pt ot fp on temps (nI H) = t1
  obtain ⟨n1, hn1, e1, W1, R1⟩ := wait_rel (ring2 := ring2) hW hR hH (by omega) h1
  generalize h2 : f_X2_pass (T + n1) t1.2.1 t1.2.2.1 t1.2.2.2.1 t1.2.2.2.2.1 t1.2.2.2.2.2.1 ot fp on t1.2.2.2.2.2.2 1 = t2
  obtain ⟨W2, R2⟩ := pass_rel (ring2 := (f_X7_waitsFor w ring2 (nI H % 32)).2) W1 R1 (by omega) h2
  have hx : (f_X7_waitsFor w ring2 (nI H % 32)).1 (414 + H) = t1.2.2.1 H := (W1.2.2.2.1 H hH).1
  have hX := wordAt_nI t1.2.2.1 hH
  rw [mEx_eq, h3, ix414 hH, hx]
  obtain ⟨P, hP, eP⟩ := of_rng (N := 256) (by decide) (operand_rng (t1.2.2.1 H))
  have hp : f_X3_operand (sg (t1.2.2.1 H)) = nI P := (SL_operand (SL_sg _)).trans eP
  have hn1c : (Int32.toNatClampNeg (f_X6_waitingUntil (nI H) (nI T))) = n1 := by rw [e1, nI_clamp (by omega)]
  exact ex_all ⟨hn1c, h1, h2, hX, hp, eP, W2, R2, hn1, hH, hP, hT⟩
