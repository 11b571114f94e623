/-! PURE V: statements one after another -/
def trS (len ep wcn sl pl ki ts te nu : Int32) (text words wri : Nat → Int32) : (Nat → Int32) × (Nat → Int32) × Int32 × Int32 × Int32 × Int32 × Int32 × Int32 × Int32 × Int32 × Int32 :=
  if (f_X0_tokenIs len ki ts te text 16) = 0 then
    if (f_X0_tokenIs len ki ts te text 17) = 0 then
      if (f_X0_tokenIs len ki ts te text 18) = 0 then
        if (f_X0_opcodeOfToken len ki ts te text) = (-1) then
          let t12 := (f_X0_fail 0 ep ts 1)
          let t13 := (f_X0_readSymbol len t12.1 t12.2 ki ts te nu text 59)
          (words, wri, t13.1, t13.2.1, wcn, sl, pl, t13.2.2.1, t13.2.2.2.1, t13.2.2.2.2.1, t13.2.2.2.2.2)
        else
          let t15 := (f_X0_readInstruction len 0 ep wcn pl ki ts te nu text words wri (f_X0_opcodeOfToken len ki ts te text))
          let t16 := (f_X0_readSymbol len t15.1 t15.2.1 t15.2.2.2.2.1 t15.2.2.2.2.2.1 t15.2.2.2.2.2.2.1 t15.2.2.2.2.2.2.2.1 text 59)
          (t15.2.2.2.2.2.2.2.2.1, t15.2.2.2.2.2.2.2.2.2, t16.1, t16.2.1, t15.2.2.1, sl, t15.2.2.2.1, t16.2.2.1, t16.2.2.2.1, t16.2.2.2.2.1, t16.2.2.2.2.2)
      else
        let t16 := (f_X0_readWordStatement len 0 ep wcn pl ki ts te nu text words wri)
        let t17 := (f_X0_readSymbol len t16.1 t16.2.1 t16.2.2.2.2.1 t16.2.2.2.2.2.1 t16.2.2.2.2.2.2.1 t16.2.2.2.2.2.2.2.1 text 59)
        (t16.2.2.2.2.2.2.2.2.1, t16.2.2.2.2.2.2.2.2.2, t17.1, t17.2.1, t16.2.2.1, sl, t16.2.2.2.1, t17.2.2.1, t17.2.2.2.1, t17.2.2.2.2.1, t17.2.2.2.2.2)
    else
      let t18 := (f_X0_readToken len ki te nu text)
      let t19 := (f_X0_readLocation len 0 ep t18.1 t18.2.1 t18.2.2.1 t18.2.2.2 text)
      let t20 := (f_X0_readSymbol len t19.2.1 t19.2.2.1 t19.2.2.2.1 t19.2.2.2.2.1 t19.2.2.2.2.2.1 t19.2.2.2.2.2.2 text 59)
      (words, wri, t20.1, t20.2.1, wcn, t19.1, pl, t20.2.2.1, t20.2.2.2.1, t20.2.2.2.2.1, t20.2.2.2.2.2)
  else
    let t21 := (f_X0_readToken len ki te nu text)
    let t22 := (f_X0_readLocation len 0 ep t21.1 t21.2.1 t21.2.2.1 t21.2.2.2 text)
    let t23 := (f_X0_readSymbol len t22.2.1 t22.2.2.1 t22.2.2.2.1 t22.2.2.2.2.1 t22.2.2.2.2.2.1 t22.2.2.2.2.2.2 text 59)
    (words, wri, t23.1, t23.2.1, wcn, sl, t22.1, t23.2.2.1, t23.2.2.2.1, t23.2.2.2.2.1, t23.2.2.2.2.2)
set_option maxHeartbeats 4000000 in
theorem tr_step {len ep wcn sl pl ki ts te nu x : Int32} {text words wri : Nat → Int32} {n : Nat} {b : (Nat → Int32) × (Nat → Int32) × Int32 × Int32 × Int32 × Int32 × Int32 × Int32 × Int32 × Int32 × Int32} (hx : ¬ 600 ≤ x) (hk : ¬ ki = 0) (hb : trS len ep wcn sl pl ki ts te nu text words wri = b) :
    wl_X0_translate len text (n + 1) words wri 0 ep wcn sl pl ki ts te nu x = wl_X0_translate len text n b.1 b.2.1 b.2.2.1 b.2.2.2.1 b.2.2.2.2.1 b.2.2.2.2.2.1 b.2.2.2.2.2.2.1 b.2.2.2.2.2.2.2.1 b.2.2.2.2.2.2.2.2.1 b.2.2.2.2.2.2.2.2.2.1 b.2.2.2.2.2.2.2.2.2.2 (x + 1) := by
  have e : wl_X0_translate len text (n + 1) words wri 0 ep wcn sl pl ki ts te nu x = if 600 ≤ x then (words, wri, 0, ep, wcn, sl, pl, ki, ts, te, nu, x) else if ki = 0 then (words, wri, 0, ep, wcn, sl, pl, ki, ts, te, nu, x) else _ := rfl
  rw [e, if_neg hx, if_neg hk, if_pos rfl]
  clear e
  unfold trS at hb
  by_cases c16 : (f_X0_tokenIs len ki ts te text 16) = 0
  · rw [if_pos c16] at hb ⊢
    by_cases c17 : (f_X0_tokenIs len ki ts te text 17) = 0
    · rw [if_pos c17] at hb ⊢
      by_cases c18 : (f_X0_tokenIs len ki ts te text 18) = 0
      · rw [if_pos c18] at hb ⊢
        by_cases co : (f_X0_opcodeOfToken len ki ts te text) = (-1)
        · rw [if_pos co] at hb ⊢
          subst hb
          try dsimp only
          try rfl
        · rw [if_neg co] at hb ⊢
          subst hb
          try dsimp only
          try rfl
      · rw [if_neg c18] at hb ⊢
        subst hb
        try dsimp only
        try rfl
    · rw [if_neg c17] at hb ⊢
      subst hb
      try dsimp only
      try rfl
  · rw [if_neg c16] at hb ⊢
    subst hb
    try dsimp only
    try rfl
theorem wlC_err {len : Int32} {text : Nat → Int32} : ∀ (n : Nat) (z2 z3 : Nat → Int32) (ec ep q3 q4 q5 q6 q7 q8 q9 x1 : Int32), ¬ ec = 0 → (wl_X0_translate len text n z2 z3 ec ep q3 q4 q5 q6 q7 q8 q9 x1).2.2.1 = ec ∧ (wl_X0_translate len text n z2 z3 ec ep q3 q4 q5 q6 q7 q8 q9 x1).2.2.2.1 = ep := by
  intro n z2 z3 ec ep q3 q4 q5 q6 q7 q8 q9 x1 h
  cases n with
  | zero => exact ⟨rfl, rfl⟩
  | succ n =>
    have e : wl_X0_translate len text (n + 1) z2 z3 ec ep q3 q4 q5 q6 q7 q8 q9 x1 = if 600 ≤ x1 then (z2, z3, ec, ep, q3, q4, q5, q6, q7, q8, q9, x1) else if q6 = 0 then (z2, z3, ec, ep, q3, q4, q5, q6, q7, q8, q9, x1) else if ec = 0 then _ else (z2, z3, ec, ep, q3, q4, q5, q6, q7, q8, q9, x1) := rfl
    rw [e]
    by_cases c1 : 600 ≤ x1
    · rw [if_pos c1]; exact ⟨rfl, rfl⟩
    · rw [if_neg c1]
      by_cases c2 : q6 = 0
      · rw [if_pos c2]; exact ⟨rfl, rfl⟩
      · rw [if_neg c2, if_neg h]; exact ⟨rfl, rfl⟩
theorem wlM_err {len : Int32} {text : Nat → Int32} {mn : Nat → Int64} {bad : Int32} (h : ¬ bad = 0) (n : Nat) (z3 z4 : Nat → Int32) (ec ep pos bg plc sta : Int32) : wl_X7_assemble len text mn n z3 z4 ec ep pos bg bad plc sta = (z3, z4, ec, ep, pos, bg, bad, plc, sta) := by
  cases n with
  | zero => rfl
  | succ n => exact if_neg h
section pureV
variable {L : Nat} {text : Nat → Int32}
theorem wc_ne : ∀ j : Nat, j < 16 → ¬ wc j = wc 16 ∧ ¬ wc j = wc 17 ∧ ¬ wc j = wc 18 := by decide +kernel
theorem wc_ne2 : ¬ wc 16 = wc 17 ∧ ¬ wc 16 = wc 18 ∧ ¬ wc 17 = wc 18 := by decide +kernel
set_option maxHeartbeats 8000000 in
/-- one statement -/
theorem st_all {q : Nat} {mn : Nat → Int64} (hL : L ≤ 600) (hq : q ≤ L) (hmn : ∀ k : Nat, k < 16 → (mn k).toInt = (wc k : Int)) {ki ts te nu ep wcn sl pl plc sta : Int32} {words wri draft wri2 : Nat → Int32} (ht : TK L text q ki ts te nu) (hPW : PW pl wcn words wri plc draft wri2) (hsl : sl = sta)
    {b : (Nat → Int32) × (Nat → Int32) × Int32 × Int32 × Int32 × Int32 × Int32 × Int32 × Int32 × Int32 × Int32} {m : Int32 × Int32 × Int32 × Int32 × Int32 × Int32 × Int32 × (Nat → Int32) × (Nat → Int32)} (hb : trS (nI L) ep wcn sl pl ki ts te nu text words wri = b) (hm : f_X7_statement (nI L) 0 ep (nI q) 0 plc sta text draft wri2 mn = m) :
    JR L text b.2.2.1 b.2.2.2.1 b.2.2.2.2.2.2.2.1 b.2.2.2.2.2.2.2.2.1 b.2.2.2.2.2.2.2.2.2.1 b.2.2.2.2.2.2.2.2.2.2 m.1 m.2.1 m.2.2.1 m.2.2.2.2.1 ∧ (b.2.2.1 = 0 → PW b.2.2.2.2.2.2.1 b.2.2.2.2.1 b.1 b.2.1 m.2.2.2.2.2.1 m.2.2.2.2.2.2.2.1 m.2.2.2.2.2.2.2.2 ∧ b.2.2.2.2.2.1 = m.2.2.2.2.2.2.1 ∧ (b.2.2.2.2.2.1 = sl ∨ ∃ v : Nat, v < 256 ∧ b.2.2.2.2.2.1 = nI v) ∧ ∃ p' : Nat, q < p' ∧ p' ≤ L ∧ m.2.2.1 = nI p') := by
  have h10 : ¬ (1 : Int32) = 0 := by decide
  obtain ⟨V, e, w1, w2, w3, w4, w5, w6⟩ := word_TK hL hq ht
  obtain ⟨o1, o2⟩ := opc_TK hmn w6
  unfold f_X7_statement at hm
  rw [w1] at hm
  dsimp only at hm
  unfold trS at hb
  have i16 := w6 16 (by decide)
  have i17 := w6 17 (by decide)
  have i18 := w6 18 (by decide)
  have k1' : ∀ i : Nat, i < 20 → ¬ f_X0_tokenIs (nI L) ki ts te text i = 0 → ki = 1 := by
    intro i _ z
    by_cases c : ki = 1
    · exact c
    · exact absurd (if_neg c) z
  by_cases c16 : f_X0_tokenIs (nI L) ki ts te text 16 = 0
  · rw [if_pos c16] at hb
    rw [if_neg (fun z => (i16.mp c16) ((V_eq wc_47).mp z))] at hm
    by_cases c17 : f_X0_tokenIs (nI L) ki ts te text 17 = 0
    · rw [if_pos c17] at hb
      rw [if_neg (fun z => (i17.mp c17) ((V_eq wc_st).mp z)), o1] at hm
      by_cases c18 : f_X0_tokenIs (nI L) ki ts te text 18 = 0
      · rw [if_pos c18] at hb
        by_cases co : f_X0_opcodeOfToken (nI L) ki ts te text = -1
        · rw [if_pos co] at hb hm
          rw [if_neg (fun z => (i18.mp c18) ((V_eq wc_wd).mp z)), wrong_0] at hm
          dsimp only at hb hm
          rw [sign_frz h10] at hm
          rw [fail_0] at hb
          dsimp only at hb
          have hs := sym_frz (L := L) (text := text) (ec := 1) (ep := ts) (ki := ki) (ts := ts) (te := te) (nu := nu) (s := 59) h10
          generalize f_X0_readSymbol (nI L) 1 ts ki ts te nu text 59 = t13 at *
          subst hb hm
          dsimp only
          exact ⟨JR.err hs.1 hs.2 (by rw [hs.1]; exact h10) h10, fun z => absurd (hs.1.symm.trans z) h10⟩
        · rw [if_neg co] at hb hm
          rw [o1] at o2
          obtain ⟨j, hj, ej, -⟩ := o2.resolve_left co
          have hk1 : ki = 1 := by
            by_cases c : ki = 1
            · exact c
            · have hV0 := w5 c
              have := (opc_TK hmn w6).2
              rw [o1] at this
              obtain ⟨j2, hj2, -, g⟩ := this.resolve_left co
              have hw := wc_pos j2 (by omega)
              have e0 : (0 : Int64).toInt = 0 := by decide
              rw [hV0, e0] at g
              generalize wc j2 = y at *
              omega
          obtain ⟨te1, te2⟩ := w4 hk1
          rw [ej, te1] at hb
          rw [ej] at hm
          dsimp only at hb
          generalize ha : f_X0_readInstruction (nI L) 0 ep wcn pl ki ts (nI e) nu text words wri (nI j) = a at hb
          generalize hc : f_X0_readSymbol (nI L) a.1 a.2.1 a.2.2.2.2.1 a.2.2.2.2.2.1 a.2.2.2.2.2.2.1 a.2.2.2.2.2.2.2.1 text 59 = c at hb
          have r := st_inst hL hj w3 ki ts nu ep sta hPW ha hc hm
          subst hb
          dsimp only
          refine ⟨r.1, fun z => ?_⟩
          obtain ⟨r1, r2, p', r3, r4, r5⟩ := r.2 z
          exact ⟨r1, hsl.trans r2.symm, Or.inl rfl, p', by omega, r4, r5⟩
      · rw [if_neg c18] at hb
        have hV : V = 464134 := (V_eq wc_wd).mpr (Decidable.byContradiction fun z => c18 (i18.mpr z))
        have co : f_X0_opcodeOfToken (nI L) ki ts te text = -1 := by
          rw [o1] at o2
          rcases o2 with g | ⟨j, hj, -, g⟩
          · exact g
          · exfalso
            rw [hV, wc_wd] at g
            exact (wc_ne j hj).2.2 (Int.ofNat.inj g).symm
        rw [if_pos co, if_pos hV] at hm
        obtain ⟨te1, te2⟩ := w4 (k1' 18 (by decide) c18)
        rw [te1] at hb
        dsimp only at hb
        generalize ha : f_X0_readWordStatement (nI L) 0 ep wcn pl ki ts (nI e) nu text words wri = a at hb
        generalize hc : f_X0_readSymbol (nI L) a.1 a.2.1 a.2.2.2.2.1 a.2.2.2.2.2.1 a.2.2.2.2.2.2.1 a.2.2.2.2.2.2.2.1 text 59 = c at hb
        have r := st_word hL w3 ki ts nu ep ts sta hPW ha hc hm
        subst hb
        dsimp only
        refine ⟨r.1, fun z => ?_⟩
        obtain ⟨r1, r2, p', r3, r4, r5⟩ := r.2 z
        exact ⟨r1, hsl.trans r2.symm, Or.inl rfl, p', by omega, r4, r5⟩
    · rw [if_neg c17] at hb
      have hV : V = 10492274 := (V_eq wc_st).mpr (Decidable.byContradiction fun z => c17 (i17.mpr z))
      rw [if_pos hV] at hm
      obtain ⟨te1, te2⟩ := w4 (k1' 17 (by decide) c17)
      rw [te1] at hb
      dsimp only at hb
      generalize ha : f_X0_readLocation (nI L) 0 ep (f_X0_readToken (nI L) ki (nI e) nu text).1 (f_X0_readToken (nI L) ki (nI e) nu text).2.1 (f_X0_readToken (nI L) ki (nI e) nu text).2.2.1 (f_X0_readToken (nI L) ki (nI e) nu text).2.2.2 text = a at hb
      generalize hbb : f_X7_readLocation (nI L) 0 ep (nI e) 0 text = u at hm
      generalize hc : f_X0_readSymbol (nI L) a.2.1 a.2.2.1 a.2.2.2.1 a.2.2.2.2.1 a.2.2.2.2.2.1 a.2.2.2.2.2.2 text 59 = c at hb
      generalize hd : f_X7_sign (nI L) u.2.1 u.2.2.1 u.2.2.2.1 u.2.2.2.2 text 59 = d at hm
      have r := st_loc hL w3 ki nu ep ha hbb hc hd
      subst hb hm
      dsimp only
      refine ⟨r.1, fun z => ?_⟩
      obtain ⟨v, p', r1, r2, r3, r4, r5, r6⟩ := r.2 z
      exact ⟨hPW, r2.trans r3.symm, Or.inr ⟨v, r1, r2⟩, p', by omega, r5, r6⟩
  · rw [if_neg c16] at hb
    have hV : V = 47 := (V_eq wc_47).mpr (Decidable.byContradiction fun z => c16 (i16.mpr z))
    rw [if_pos hV] at hm
    obtain ⟨te1, te2⟩ := w4 (k1' 16 (by decide) c16)
    rw [te1] at hb
    dsimp only at hb
    generalize ha : f_X0_readLocation (nI L) 0 ep (f_X0_readToken (nI L) ki (nI e) nu text).1 (f_X0_readToken (nI L) ki (nI e) nu text).2.1 (f_X0_readToken (nI L) ki (nI e) nu text).2.2.1 (f_X0_readToken (nI L) ki (nI e) nu text).2.2.2 text = a at hb
    generalize hbb : f_X7_readLocation (nI L) 0 ep (nI e) 0 text = u at hm
    generalize hc : f_X0_readSymbol (nI L) a.2.1 a.2.2.1 a.2.2.2.1 a.2.2.2.2.1 a.2.2.2.2.2.1 a.2.2.2.2.2.2 text 59 = c at hb
    generalize hd : f_X7_sign (nI L) u.2.1 u.2.2.1 u.2.2.2.1 u.2.2.2.2 text 59 = d at hm
    have r := st_loc hL w3 ki nu ep ha hbb hc hd
    subst hb hm
    dsimp only
    refine ⟨r.1, fun z => ?_⟩
    obtain ⟨v, p', r1, r2, r3, r4, r5, r6⟩ := r.2 z
    rw [r2, r3]
    exact ⟨hPW.move r1, hsl, Or.inl rfl, p', by omega, r5, r6⟩
end pureV
