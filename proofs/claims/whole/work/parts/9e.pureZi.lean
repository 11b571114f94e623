/-! PURE Zi: facts that the law's body wants of the relation -/
section CRf
variable {T B : Nat} {tm et wt sta he ac ov dr pt ot fp on fi li fo lo : Int32} {bits slips temps rin rout cnt w : Nat → Int32}
theorem CR.gon (h : CR T tm et wt sta he ac ov dr bits slips pt ot fp on temps fi li rin fo lo rout cnt w) : g01 on := h.2.1.2.2.2.2.2
theorem CR.gov (h : CR T tm et wt sta he ac ov dr bits slips pt ot fp on temps fi li rin fo lo rout cnt w) : g01 ov := h.2.2.2.2.2.2.2.1
theorem CR.tmr (h : CR T tm et wt sta he ac ov dr bits slips pt ot fp on temps fi li rin fo lo rout cnt w) (hT : T < 180000000) : 0 ≤ tm.toInt ∧ tm.toInt < 190000000 := by
  obtain ⟨rfl, -⟩ := h
  rw [nI_toInt (by omega)]
  omega
theorem CR.RT (h : CR T tm et wt sta he ac ov dr bits slips pt ot fp on temps fi li rin fo lo rout cnt w) (hT : T < 180000000) {b : Nat} (hb : b ≤ 60000) : RT w b := by
  have h0 : w 0 = nI T := h.2.1.1.1
  refine ⟨⟨?_, ?_⟩, h.2.1.2.2.2.2.1⟩
  · rw [h0, nI_toInt (by omega)]
    omega
  · rw [h0, nI_toInt (by omega)]
    omega
theorem CR.w12 (h : CR T tm et wt sta he ac ov dr bits slips pt ot fp on temps fi li rin fo lo rout cnt w) : 0 ≤ (w 12).toInt ∧ (w 12).toInt ≤ 64 := by
  obtain ⟨F, L, h1, h2, h3, h4, h5⟩ := h.2.2.2.2.1
  have e : w 12 = li := h.2.2.1.2.2.2.2.2.2.1
  rw [e, h4, nI_toInt (by omega)]
  omega
theorem CR.w13 (h : CR T tm et wt sta he ac ov dr bits slips pt ot fp on temps fi li rin fo lo rout cnt w) : 0 ≤ (w 13).toInt ∧ (w 13).toInt ≤ 64 := by
  obtain ⟨F, L, h1, h2, h3, h4, h5⟩ := h.2.2.2.2.2.1
  have e : w 13 = lo := h.2.2.1.2.2.2.2.2.2.2
  rw [e, h4, nI_toInt (by omega)]
  omega
theorem CR.EI (h : CR T tm et wt sta he ac ov dr bits slips pt ot fp on temps fi li rin fo lo rout cnt w) (hT : T < 180000000) : EI w 50101 := by
  have e : w 3 = he := h.2.2.1.2.2.1
  refine ⟨h.RT hT (by omega), ?_, h.w12, h.w13⟩
  rw [e]
  exact h.2.2.2.2.2.2.1
end CRf
set_option maxRecDepth 100000 in
set_option maxHeartbeats 4000000 in
theorem g01_tr {len : Int32} {text : Nat → Int32} : ∀ (n : Nat) (z2 z3 : Nat → Int32) (y2 y3 y6 y7 y8 y9 y10 y11 y12 x1 : Int32), (∀ i : Nat, g01 (z3 i)) → ∀ i : Nat, g01 ((wl_X0_translate len text n z2 z3 y2 y3 y6 y7 y8 y9 y10 y11 y12 x1).2.1 i) := by
  intro n
  induction n with
  | zero => exact fun _ _ _ _ _ _ _ _ _ _ _ _ h => h
  | succ n ih =>
    intro z2 z3 y2 y3 y6 y7 y8 y9 y10 y11 y12 x1 h
    unfold wl_X0_translate
    by_cases c1 : 600 ≤ x1
    · rw [if_pos c1]; exact h
    · rw [if_neg c1]
      by_cases c2 : y9 = 0
      · rw [if_pos c2]; exact h
      · rw [if_neg c2]
        by_cases c3 : y2 = 0
        · rw [if_pos c3]
          by_cases c4 : f_X0_tokenIs len y9 y10 y11 text 16 = 0
          · rw [if_pos c4]
            by_cases c5 : f_X0_tokenIs len y9 y10 y11 text 17 = 0
            · rw [if_pos c5]
              by_cases c6 : f_X0_tokenIs len y9 y10 y11 text 18 = 0
              · rw [if_pos c6]
                by_cases c7 : f_X0_opcodeOfToken len y9 y10 y11 text = (-1)
                · rw [if_pos c7]; exact ih _ _ _ _ _ _ _ _ _ _ _ _ h
                · rw [if_neg c7]; exact ih _ _ _ _ _ _ _ _ _ _ _ _ (g01_ri h)
              · rw [if_neg c6]; exact ih _ _ _ _ _ _ _ _ _ _ _ _ (g01_rws h)
            · rw [if_neg c5]; exact ih _ _ _ _ _ _ _ _ _ _ _ _ h
          · rw [if_neg c4]; exact ih _ _ _ _ _ _ _ _ _ _ _ _ h
        · rw [if_neg c3]; exact h
set_option maxRecDepth 100000 in
set_option maxHeartbeats 4000000 in
theorem g01_t0 {len ki nu : Int32} {text words wri : Nat → Int32} (h : ∀ i : Nat, g01 (wri i)) : ∀ i : Nat, g01 ((f_X0_translate len ki nu text words wri).2.2.2.2.2.2.2.2.2.2.2 i) := by
  have hb : ∀ i : Nat, g01 ((f_X0_beginText wri).2.2.2.2.2.2 i) := g01_bt h 256
  intro i
  have r := fun (y7 y8 y9 y10 : Int32) => g01_tr (len := len) (text := text) 601 words (f_X0_beginText wri).2.2.2.2.2.2 (f_X0_beginText wri).1 (f_X0_beginText wri).2.1 (f_X0_beginText wri).2.2.1 (f_X0_beginText wri).2.2.2.1 (f_X0_beginText wri).2.2.2.2.1 y7 y8 y9 y10 0 hb i
  unfold f_X0_translate
  dsimp only
  generalize f_X0_readToken len ki (f_X0_beginText wri).2.2.2.2.2.1 nu text = t2
  have r2 := r t2.1 t2.2.1 t2.2.2.1 t2.2.2.2
  generalize wl_X0_translate len text 601 words (f_X0_beginText wri).2.2.2.2.2.2 (f_X0_beginText wri).1 (f_X0_beginText wri).2.1 (f_X0_beginText wri).2.2.1 (f_X0_beginText wri).2.2.2.1 (f_X0_beginText wri).2.2.2.2.1 t2.1 t2.2.1 t2.2.2.1 t2.2.2.2 0 = z at r2 ⊢
  by_cases c : z.2.2.1 = 0
  · rw [if_pos c]; exact r2
  · rw [if_neg c]; exact r2
theorem g01_asm {sta he len ec ep wn sl pl ki ts te nu : Int32} {bits text words wri : Nat → Int32} (h : ∀ i : Nat, g01 (wri i)) : ∀ i : Nat, g01 ((fA_X6_assemble sta he bits len ec ep wn sl pl ki ts te nu text words wri).2.2.2.2.2.2.2.2.2.2.2.2.2.2.2 i) := by
  intro i
  have r := g01_t0 (len := len) (ki := ki) (nu := nu) (text := text) (words := words) h i
  unfold fA_X6_assemble f_X6_assemble
  generalize f_X0_translate len ki nu text words wri = z at r ⊢
  by_cases c : th_X6_assemble len ki nu text words wri = none
  · rw [if_pos c]
    by_cases c1 : z.1 = 0
    · rw [if_pos c1]; exact h i
    · rw [if_neg c1]
      by_cases c2 : z.2.2.2.2.1 = (-1)
      · rw [if_pos c2]; exact r
      · rw [if_neg c2]; exact r
  · rw [if_neg c]; exact r
set_option maxRecDepth 100000 in
theorem FB_format {bits : Nat → Int32} {ml : Int32} {k n : Nat} {f : Nat → Int32} {p q : Int32} (hF : FB f) : FB (f_X6_format bits ml k n f p q).2.2.2.2 := by
  unfold f_X6_format
  generalize f_X5_wordAt bits (f_X6_locationOf p q) = X
  obtain ⟨o1, -⟩ := opN_lt X
  obtain ⟨a1, -⟩ := adN_lt X
  obtain ⟨n1, -⟩ := neN_lt X
  generalize opN X = o at o1 ⊢
  generalize adN X = a at a1 ⊢
  generalize neN X = b at n1 ⊢
  by_cases c1 : th_X6_requireLocation p q = none
  · rw [if_pos c1]
    by_cases c2 : f_X3_operandForm (f_X3_opcode X) = 1
    · rw [if_pos c2]
      dsimp only
      repeat (first | (with_reducible exact hF) | (with_reducible refine FB.fl ?_ ?_; · omega) | (with_reducible refine FB.F ?_) | (with_reducible refine FB.cpyS ?_ ?_; · omega) | (with_reducible refine FB.upd ?_ ?_; rotate_left; · decide) | (with_reducible refine FB.C ?_ ?_; · omega))
    · rw [if_neg c2]
      by_cases c3 : f_X3_operandForm (f_X3_opcode X) = 2
      · rw [if_pos c3]
        dsimp only
        repeat (first | (with_reducible exact hF) | (with_reducible refine FB.fl ?_ ?_; · omega) | (with_reducible refine FB.F ?_) | (with_reducible refine FB.cpyS ?_ ?_; · omega) | (with_reducible refine FB.upd ?_ ?_; rotate_left; · decide) | (with_reducible refine FB.C ?_ ?_; · omega))
      · rw [if_neg c3]
        dsimp only
        repeat (first | (with_reducible exact hF) | (with_reducible refine FB.fl ?_ ?_; · omega) | (with_reducible refine FB.F ?_) | (with_reducible refine FB.cpyS ?_ ?_; · omega) | (with_reducible refine FB.upd ?_ ?_; rotate_left; · decide) | (with_reducible refine FB.C ?_ ?_; · omega))
  · rw [if_neg c1]; exact hF
theorem mn_rgF {mn : Nat → Int64} (h : ∀ k : Nat, k < 16 → (mn k).toInt = (wc k : Int)) : ∀ k : Nat, k < 16 → 0 ≤ (mn k).toInt ∧ (mn k).toInt < 387420489 := fun k hk => by
  rw [h k hk]
  exact (wc_tab k hk).2.2.1
