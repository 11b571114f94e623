abbrev tyI : Type := Int32 × Int32 × Int32 × Int32 × Int32 × Int32 × (Nat → Int32) × (Nat → Int32)
/-- what an instruction's text goes on with behind its operand o -/
def insT (len plc : Int32) (text draft wri : Nat → Int32) (bg p0 o ec ep pos bad : Int32) : tyI :=
  if bad = 0 then
    let t6 := (f_X7_here len pos text)
    if (f_X7_in (Int32.toInt64 t6.1) 97 122) = 0 then
      let t9 := (f_X7_writes plc draft wri (f_X7_coded p0 o (f_X7_after plc)))
      (ec, ep, t6.2, bg, bad, t9.1, t9.2.1, t9.2.2)
    else
      let t10 := (f_X7_word len t6.2 text)
      if t10.1 = 399641 then
        let t12 := (f_X7_readLocation len ec ep t10.2.1 bad text)
        if t12.2.2.2.2 = 0 then
          let t14 := (f_X7_writes plc draft wri (f_X7_coded p0 o t12.1))
          (t12.2.1, t12.2.2.1, t12.2.2.2.1, t10.2.2, t12.2.2.2.2, t14.1, t14.2.1, t14.2.2)
        else
          (t12.2.1, t12.2.2.1, t12.2.2.2.1, t10.2.2, t12.2.2.2.2, plc, draft, wri)
      else
        let t15 := (f_X7_wrong ec ep bad 1 t10.2.2)
        let t16 := (f_X7_readLocation len t15.1 t15.2.1 t10.2.1 t15.2.2 text)
        if t16.2.2.2.2 = 0 then
          let t18 := (f_X7_writes plc draft wri (f_X7_coded p0 o t16.1))
          (t16.2.1, t16.2.2.1, t16.2.2.2.1, t10.2.2, t16.2.2.2.2, t18.1, t18.2.1, t18.2.2)
        else
          (t16.2.1, t16.2.2.1, t16.2.2.2.1, t10.2.2, t16.2.2.2.2, plc, draft, wri)
  else (ec, ep, pos, bg, bad, plc, draft, wri)
set_option maxRecDepth 20000 in
theorem inst_eq (len ec ep pos bg bad plc : Int32) (text draft wri : Nat → Int32) (p0 : Int32) : f_X7_instruction len ec ep pos bg bad plc text draft wri p0 =
    if (f_X7_hasOperand p0) = 0 then
      if p0 = 8 then insT len plc text draft wri bg p0 (f_X7_number len ec ep pos bad text 0 31 0).1 (f_X7_number len ec ep pos bad text 0 31 0).2.1 (f_X7_number len ec ep pos bad text 0 31 0).2.2.1 (f_X7_number len ec ep pos bad text 0 31 0).2.2.2.1 (f_X7_number len ec ep pos bad text 0 31 0).2.2.2.2
      else
        if p0 = 9 then insT len plc text draft wri bg p0 (f_X7_number len ec ep pos bad text 0 31 0).1 (f_X7_number len ec ep pos bad text 0 31 0).2.1 (f_X7_number len ec ep pos bad text 0 31 0).2.2.1 (f_X7_number len ec ep pos bad text 0 31 0).2.2.2.1 (f_X7_number len ec ep pos bad text 0 31 0).2.2.2.2
        else insT len plc text draft wri bg p0 0 ec ep pos bad
    else insT len plc text draft wri bg p0 (f_X7_readLocation len ec ep pos bad text).1 (f_X7_readLocation len ec ep pos bad text).2.1 (f_X7_readLocation len ec ep pos bad text).2.2.1 (f_X7_readLocation len ec ep pos bad text).2.2.2.1 (f_X7_readLocation len ec ep pos bad text).2.2.2.2 := rfl
theorem writes_plc {plc p : Int32} {draft wri : Nat → Int32} : (f_X7_writes plc draft wri p).1 = f_X7_after plc := rfl
theorem insT_pos {len plc bg p0 o ec ep pos bad : Int32} {text draft wri : Nat → Int32} {z : tyI} (hlen : 0 ≤ len.toInt ∧ len.toInt ≤ 600) (hpos : 0 ≤ pos.toInt ∧ pos.toInt ≤ 660) (hplc : 0 ≤ plc.toInt ∧ plc.toInt < 256) (h : insT len plc text draft wri bg p0 o ec ep pos bad = z) : (pos.toInt ≤ z.2.2.1.toInt ∧ (z.2.2.1.toInt ≤ len.toInt + 1 ∨ z.2.2.1.toInt ≤ pos.toInt + 1)) ∧ (0 ≤ z.2.2.2.2.2.1.toInt ∧ z.2.2.2.2.2.1.toInt < 256) := by
  have ha := after_rng hplc
  unfold insT at h
  dsimp only at h
  by_cases b : bad = 0
  · rw [if_pos b] at h
    generalize e6 : f_X7_here len pos text = t6 at h
    have q6 := here_pos hlen (by omega) e6
    by_cases c : (f_X7_in (Int32.toInt64 t6.1) 97 122) = 0
    · rw [if_pos c] at h
      subst h
      exact ⟨⟨by show _ ≤ t6.2.toInt; omega, by show t6.2.toInt ≤ _ ∨ t6.2.toInt ≤ _; omega⟩, ha⟩
    · rw [if_neg c] at h
      generalize e10 : f_X7_word len t6.2 text = t10 at h
      have q10 := word_pos hlen (by omega) e10
      by_cases d : t10.1 = 399641
      · rw [if_pos d] at h
        generalize e12 : f_X7_readLocation len ec ep t10.2.1 bad text = t12 at h
        have q12 := rl_pos hlen (by omega) e12
        by_cases f : t12.2.2.2.2 = 0
        · rw [if_pos f] at h
          subst h
          exact ⟨⟨by show _ ≤ t12.2.2.2.1.toInt; omega, by show t12.2.2.2.1.toInt ≤ _ ∨ t12.2.2.2.1.toInt ≤ _; omega⟩, ha⟩
        · rw [if_neg f] at h
          subst h
          exact ⟨⟨by show _ ≤ t12.2.2.2.1.toInt; omega, by show t12.2.2.2.1.toInt ≤ _ ∨ t12.2.2.2.1.toInt ≤ _; omega⟩, hplc⟩
      · rw [if_neg d] at h
        generalize e15 : f_X7_wrong ec ep bad 1 t10.2.2 = t15 at h
        generalize e12 : f_X7_readLocation len t15.1 t15.2.1 t10.2.1 t15.2.2 text = t12 at h
        have q12 := rl_pos hlen (by omega) e12
        by_cases f : t12.2.2.2.2 = 0
        · rw [if_pos f] at h
          subst h
          exact ⟨⟨by show _ ≤ t12.2.2.2.1.toInt; omega, by show t12.2.2.2.1.toInt ≤ _ ∨ t12.2.2.2.1.toInt ≤ _; omega⟩, ha⟩
        · rw [if_neg f] at h
          subst h
          exact ⟨⟨by show _ ≤ t12.2.2.2.1.toInt; omega, by show t12.2.2.2.1.toInt ≤ _ ∨ t12.2.2.2.1.toInt ≤ _; omega⟩, hplc⟩
  · rw [if_neg b] at h
    subst h
    exact ⟨⟨Int.le_refl _, Or.inr (by show pos.toInt ≤ _; omega)⟩, hplc⟩
theorem inst_pos0 {len ec ep pos bg bad plc p0 : Int32} {text draft wri : Nat → Int32} {z : tyI} (hlen : 0 ≤ len.toInt ∧ len.toInt ≤ 600) (hpos : 0 ≤ pos.toInt ∧ pos.toInt ≤ 650) (hplc : 0 ≤ plc.toInt ∧ plc.toInt < 256) (h : f_X7_instruction len ec ep pos bg bad plc text draft wri p0 = z) : (pos.toInt ≤ z.2.2.1.toInt ∧ (z.2.2.1.toInt ≤ len.toInt + 2 ∨ z.2.2.1.toInt ≤ pos.toInt + 2)) ∧ (0 ≤ z.2.2.2.2.2.1.toInt ∧ z.2.2.2.2.2.1.toInt < 256) := by
  rw [inst_eq] at h
  by_cases c : f_X7_hasOperand p0 = 0
  · rw [if_pos c] at h
    generalize e1 : f_X7_number len ec ep pos bad text 0 31 0 = t1 at h
    have q1 := number_pos hlen (by omega) e1
    by_cases c8 : p0 = 8
    · rw [if_pos c8] at h
      have q := insT_pos hlen (by omega) hplc h
      omega
    · rw [if_neg c8] at h
      by_cases c9 : p0 = 9
      · rw [if_pos c9] at h
        have q := insT_pos hlen (by omega) hplc h
        omega
      · rw [if_neg c9] at h
        have q := insT_pos hlen (by omega) hplc h
        omega
  · rw [if_neg c] at h
    generalize e1 : f_X7_readLocation len ec ep pos bad text = t1 at h
    have q1 := rl_pos hlen (by omega) e1
    have q := insT_pos hlen (by omega) hplc h
    omega
def f_X7_statement (len : Int32) (ec : Int32) (ep : Int32) (pos : Int32) (bad : Int32) (plc : Int32) (sta : Int32) (text : Nat → Int32) (draft : Nat → Int32) (wri : Nat → Int32) (mn : Nat → Int64) : Int32 × Int32 × Int32 × Int32 × Int32 × Int32 × Int32 × (Nat → Int32) × (Nat → Int32) :=
  let t1 := (f_X7_word len pos text)
  if t1.1 = 47 then
    let t34 := (f_X7_readLocation len ec ep t1.2.1 bad text)
    let t35 := (f_X7_sign len t34.2.1 t34.2.2.1 t34.2.2.2.1 t34.2.2.2.2 text 59)
    (t35.1, t35.2.1, t35.2.2.1, t1.2.2, t35.2.2.2, t34.1, sta, draft, wri)
  else
    if t1.1 = 10492274 then
      let t32 := (f_X7_readLocation len ec ep t1.2.1 bad text)
      let t33 := (f_X7_sign len t32.2.1 t32.2.2.1 t32.2.2.2.1 t32.2.2.2.2 text 59)
      (t33.1, t33.2.1, t33.2.2.1, t1.2.2, t33.2.2.2, plc, t32.1, draft, wri)
    else
      if (f_X7_opcodeOf mn t1.1) = (-1) then
        if t1.1 = 464134 then
          if (wri (Int32.toNatClampNeg plc)) = 0 then
            let t14 := (f_X7_here len t1.2.1 text)
            if t14.1 = 45 then
              let t23 := (f_X7_number len ec ep (t14.2 + 1) bad text (-524288) 524287 1)
              if t23.2.2.2.2 = 0 then
                let t26 := (f_X7_writes plc draft wri t23.1)
                let t27 := (f_X7_sign len t23.2.1 t23.2.2.1 t23.2.2.2.1 t23.2.2.2.2 text 59)
                (t27.1, t27.2.1, t27.2.2.1, t1.2.2, t27.2.2.2, t26.1, sta, t26.2.1, t26.2.2)
              else
                let t25 := (f_X7_sign len t23.2.1 t23.2.2.1 t23.2.2.2.1 t23.2.2.2.2 text 59)
                (t25.1, t25.2.1, t25.2.2.1, t1.2.2, t25.2.2.2, plc, sta, draft, wri)
            else
              let t17 := (f_X7_number len ec ep (t14.2 + 0) bad text (-524288) 524287 0)
              if t17.2.2.2.2 = 0 then
                let t20 := (f_X7_writes plc draft wri t17.1)
                let t21 := (f_X7_sign len t17.2.1 t17.2.2.1 t17.2.2.2.1 t17.2.2.2.2 text 59)
                (t21.1, t21.2.1, t21.2.2.1, t1.2.2, t21.2.2.2, t20.1, sta, t20.2.1, t20.2.2)
              else
                let t19 := (f_X7_sign len t17.2.1 t17.2.2.1 t17.2.2.2.1 t17.2.2.2.2 text 59)
                (t19.1, t19.2.1, t19.2.2.1, t1.2.2, t19.2.2.2, plc, sta, draft, wri)
          else
            let t28 := (f_X7_wrong ec ep bad 3 t1.2.2)
            let t29 := (f_X7_sign len t28.1 t28.2.1 t1.2.1 t28.2.2 text 59)
            (t29.1, t29.2.1, t29.2.2.1, t1.2.2, t29.2.2.2, plc, sta, draft, wri)
        else
          let t30 := (f_X7_wrong ec ep bad 1 t1.2.2)
          let t31 := (f_X7_sign len t30.1 t30.2.1 t1.2.1 t30.2.2 text 59)
          (t31.1, t31.2.1, t31.2.2.1, t1.2.2, t31.2.2.2, plc, sta, draft, wri)
      else
        if (wri (Int32.toNatClampNeg plc)) = 0 then
          let t7 := (f_X7_instruction len ec ep t1.2.1 t1.2.2 bad plc text draft wri (f_X7_opcodeOf mn t1.1))
          let t8 := (f_X7_sign len t7.1 t7.2.1 t7.2.2.1 t7.2.2.2.2.1 text 59)
          (t8.1, t8.2.1, t8.2.2.1, t7.2.2.2.1, t8.2.2.2, t7.2.2.2.2.2.1, sta, t7.2.2.2.2.2.2.1, t7.2.2.2.2.2.2.2)
        else
          let t9 := (f_X7_wrong ec ep bad 3 t1.2.2)
          let t10 := (f_X7_sign len t9.1 t9.2.1 t1.2.1 t9.2.2 text 59)
          (t10.1, t10.2.1, t10.2.2.1, t1.2.2, t10.2.2.2, plc, sta, draft, wri)
set_option maxRecDepth 100000 in
set_option maxHeartbeats 4000000 in
theorem c_X7_statement (l : Launch) (G : gG) (m0 : Nat) (m1 : Nat) (m2 : Nat) (m3 : Nat) (m6 : Nat) (m13 : Nat) (m14 : Nat) (m17 : Nat) (m18 : Nat) (m19 : Nat) (rz : Int32) (hf : Int32) (hs : Int32) (len : Int32) (ec : Int32) (ep : Int32) (pos : Int32) (bg : Int32) (bad : Int32) (plc : Int32) (sta : Int32) (shm : Int32) (text : Nat → Int32) (draft : Nat → Int32) (wri : Nat → Int32) (mn : Nat → Int64) (hlen : 0 ≤ len.toInt ∧ len.toInt ≤ 600) (hpos : 0 ≤ pos.toInt ∧ pos.toInt ≤ 610) (hplc : 0 ≤ plc.toInt ∧ plc.toInt < 256) : gM l G yX7_statement cX7_statement 7 none { frames := 4, cells := 0, slots := 0, locals := 95 } [.ref m0] [(m0, .inr (10, [.int rz, .ref m1, .ref m2, .ref m3, .int hf, .int hs, .ref m6, .int len, .int ec, .int ep, .int pos, .int bg, .int bad, .ref m13, .ref m14, .int plc, .int sta, .ref m17, .ref m18, .ref m19, .int shm])), (m6, .inl (G.2.1.1, 600, .inl text)), (m13, .inl (G.2.1.1, 256, .inl draft)), (m14, .inl (G.2.1.2.1, 256, .inl wri)), (m17, .inl (G.2.1.2.2.1, 16, .inr (.inl mn)))] none [(m0, .inr (10, [.int rz, .ref m1, .ref m2, .ref m3, .int hf, .int hs, .ref m6, .int len, .int ((f_X7_statement len ec ep pos bad plc sta text draft wri mn).1), .int ((f_X7_statement len ec ep pos bad plc sta text draft wri mn).2.1), .int ((f_X7_statement len ec ep pos bad plc sta text draft wri mn).2.2.1), .int ((f_X7_statement len ec ep pos bad plc sta text draft wri mn).2.2.2.1), .int ((f_X7_statement len ec ep pos bad plc sta text draft wri mn).2.2.2.2.1), .ref m13, .ref m14, .int ((f_X7_statement len ec ep pos bad plc sta text draft wri mn).2.2.2.2.2.1), .int ((f_X7_statement len ec ep pos bad plc sta text draft wri mn).2.2.2.2.2.2.1), .ref m17, .ref m18, .ref m19, .int shm])), (m6, .inl (G.2.1.1, 600, .inl text)), (m13, .inl (G.2.1.1, 256, .inl ((f_X7_statement len ec ep pos bad plc sta text draft wri mn).2.2.2.2.2.2.2.1))), (m14, .inl (G.2.1.2.1, 256, .inl ((f_X7_statement len ec ep pos bad plc sta text draft wri mn).2.2.2.2.2.2.2.2))), (m17, .inl (G.2.1.2.2.1, 16, .inr (.inl mn)))] 0 0 := by
  refine gBegin (by decide +kernel) (Nat.le_of_ble_eq_true rfl) (fun p e s m args below meth c A F hr hlocks hname hN hK hP hD hA hS ls hl => ?_)
  obtain ⟨hx, hb, hml, hown, hts⟩ := id F
  replace hP : va_P G.1 vwCl [(m0, .inr (10, [.int rz, .ref m1, .ref m2, .ref m3, .int hf, .int hs, .ref m6, .int len, .int ec, .int ep, .int pos, .int bg, .int bad, .ref m13, .ref m14, .int plc, .int sta, .ref m17, .ref m18, .ref m19, .int shm])), (m6, .inl (G.2.1.1, 600, .inl text)), (m13, .inl (G.2.1.1, 256, .inl draft)), (m14, .inl (G.2.1.2.1, 256, .inl wri)), (m17, .inl (G.2.1.2.2.1, 16, .inr (.inl mn)))] s.heap := hP
  replace hl : lv_has ls 7 [(0, .ref m0)] := hl
  refine lv_aload_n hx hb dX7_statement_0 rfl (lv_at hl 0 rfl) ?_
  refine gV (As := []) (rest := []) (wr := [(m13, .inl (G.2.1.1, 256, .inl draft)), (m14, .inl (G.2.1.2.1, 256, .inl wri)), (m17, .inl (G.2.1.2.2.1, 16, .inr (.inl mn)))]) (ws' := [(m0, .inr (10, [.int rz, .ref m1, .ref m2, .ref m3, .int hf, .int hs, .ref m6, .int len, .int ec, .int ep, .int ((f_X7_word len pos text).2.1), .int ((f_X7_word len pos text).2.2), .int bad, .ref m13, .ref m14, .int plc, .int sta, .ref m17, .ref m18, .ref m19, .int shm])), (m6, .inl (G.2.1.1, 600, .inl text)), (m13, .inl (G.2.1.1, 256, .inl draft)), (m14, .inl (G.2.1.2.1, 256, .inl wri)), (m17, .inl (G.2.1.2.2.1, 16, .inr (.inl mn)))]) F (c_X7_word l G m0 m1 m2 m3 m6 m13 m14 m17 m18 m19 rz hf hs len ec ep pos bg bad plc sta shm text hlen (by have o0 : (0 : Int32).toInt = 0 := (by decide); have o1 : (1 : Int32).toInt = 1 := (by decide); omega)) okV_X7_word k_ml_X7_160 rfl rfl ⟨Nat.le_of_ble_eq_true rfl, Nat.le_of_ble_eq_true rfl⟩ hN hK hP hD hS hA [0, 1] [2, 3, 4] [3, 4, 0, 1, 2] (by decide) rfl rfl (by decide) (by decide) (by decide) rfl (q0 := 0) rfl rfl rfl rfl hl.1 (Nat.le_of_ble_eq_true rfl) dX7_statement_1 ⟨Nat.le_refl _, Nat.le_refl _⟩ (fun H locs hP hD hS => ?_)
  generalize et1 : (f_X7_word len pos text) = t1 at hP hD ⊢
  refine lv_lstore_n (lv' := [(1, .long t1.1), (0, .ref m0)]) hx hb dX7_statement_4 rfl hl (by decide) rfl (fun ls hl => ?_)
  refine lv_aload_n hx hb dX7_statement_5 rfl (lv_at hl 1 rfl) ?_
  refine va_get (D := G.1) (ci := 10) (v := .int t1.2.2) (C := RX7) (T := TX7) (N := 21) hx hb hts in_X7 hown hK hP 0 rfl rfl 11 (by decide) (hts _ k_fl_X7_124) (fun _ h9 => h9) rfl dX7_statement_6 ?_
  refine lv_istore_n (lv' := [(3, .int t1.2.2), (1, .long t1.1), (0, .ref m0)]) hx hb dX7_statement_9 rfl hl (by decide) rfl (fun ls hl => ?_)
  refine lv_aload_n hx hb dX7_statement_10 rfl (lv_at hl 2 rfl) ?_
  refine lv_lload_n hx hb dX7_statement_11 rfl (lv_at hl 1 rfl) ?_
  refine gV (As := [.long t1.1]) (rest := []) (wr := [(m6, .inl (G.2.1.1, 600, .inl text)), (m13, .inl (G.2.1.1, 256, .inl draft)), (m14, .inl (G.2.1.2.1, 256, .inl wri))]) (ws' := [(m0, .inr (10, [.int rz, .ref m1, .ref m2, .ref m3, .int hf, .int hs, .ref m6, .int len, .int ec, .int ep, .int t1.2.1, .int t1.2.2, .int bad, .ref m13, .ref m14, .int plc, .int sta, .ref m17, .ref m18, .ref m19, .int shm])), (m6, .inl (G.2.1.1, 600, .inl text)), (m13, .inl (G.2.1.1, 256, .inl draft)), (m14, .inl (G.2.1.2.1, 256, .inl wri)), (m17, .inl (G.2.1.2.2.1, 16, .inr (.inl mn)))]) F (c_X7_opcodeOf l G m0 m1 m2 m3 m6 m13 m14 m17 m18 m19 rz hf hs len ec ep t1.2.1 t1.2.2 bad plc sta shm mn t1.1) okV_X7_opcodeOf k_ml_X7_173 rfl rfl ⟨Nat.le_of_ble_eq_true rfl, Nat.le_of_ble_eq_true rfl⟩ hN hK hP hD hS hA [0, 4] [1, 2, 3] [3, 0, 1, 2, 4] (by decide) rfl rfl (by decide) (by decide) (by decide) rfl (q0 := 0) rfl rfl rfl rfl hl.1 (Nat.le_of_ble_eq_true rfl) dX7_statement_12 ⟨Nat.le_refl _, Nat.le_refl _⟩ (fun H locs hP hD hS => ?_)
  refine lv_istore (lv' := [(4, .int (f_X7_opcodeOf mn t1.1)), (3, .int t1.2.2), (1, .long t1.1), (0, .ref m0)]) hx hb dX7_statement_15 hl (by decide) rfl (fun ls hl => ?_)
  refine lv_lload_n hx hb dX7_statement_17 rfl (lv_at hl 2 rfl) ?_
  refine lv_ldc2 (v := 47) hx hb hown (hts _ k_lc_X7_177) dX7_statement_18 ?_
  refine gLc_ne (tgt := 36) hx hb dX7_statement_21 dX7_statement_22 (by decide) (fun c_2 => ?_) (fun c_2 => ?_)
  · skip
    refine lv_lload_n hx hb dX7_statement_36 rfl (lv_at hl 2 rfl) ?_
    refine lv_ldc2 (v := 10492274) hx hb hown (hts _ k_lc_X7_179) dX7_statement_37 ?_
    refine gLc_ne (tgt := 55) hx hb dX7_statement_40 dX7_statement_41 (by decide) (fun c_3 => ?_) (fun c_3 => ?_)
    · skip
      refine lv_iload hx hb dX7_statement_55 (lv_at hl 0 rfl) ?_
      refine lv_iconst (v := (-1)) hx hb dX7_statement_57 (by decide) ?_
      refine lv_icmp_ne (tgt := 78) hx hb dX7_statement_58 (by decide) (fun c_4 => ?_) (fun c_4 => ?_)
      · skip
        refine lv_aload_n hx hb dX7_statement_78 rfl (lv_at hl 3 rfl) ?_
        refine va_get (D := G.1) (ci := 10) (v := .ref m14) (C := RX7) (T := TX7) (N := 21) hx hb hts in_X7 hown hK hP 0 rfl rfl 14 (by decide) (hts _ k_fl_X7_29) (fun _ h9 => h9) rfl dX7_statement_79 ?_
        refine lv_aload_n hx hb dX7_statement_82 rfl (lv_at hl 3 rfl) ?_
        refine va_get (D := G.1) (ci := 10) (v := .int plc) (C := RX7) (T := TX7) (N := 21) hx hb hts in_X7 hown hK hP 0 rfl rfl 15 (by decide) (hts _ k_fl_X7_148) (fun _ h9 => h9) rfl dX7_statement_83 ?_
        refine va_zald hx hb hK hP 3 1 rfl rfl (by (try rw [vp_in_iff]); omega) dX7_statement_86 ?_
        refine lv_if_eq (tgt := 99) hx hb dX7_statement_87 (by decide) (fun c_5 => ?_) (fun c_5 => ?_)
        · skip
          refine lv_iload hx hb dX7_statement_99 (lv_at hl 0 rfl) ?_
          refine lv_iconst (v := (-1)) hx hb dX7_statement_101 (by decide) ?_
          refine lv_icmp_ne (tgt := 168) hx hb dX7_statement_102 (by decide) (fun c_6 => ?_) (fun c_6 => ?_)
          · skip
            refine lv_aload_n hx hb dX7_statement_168 rfl (lv_at hl 3 rfl) ?_
            refine lv_iload hx hb dX7_statement_169 (lv_at hl 0 rfl) ?_
            refine gV (As := [.int (f_X7_opcodeOf mn t1.1)]) (rest := []) (wr := [(m17, .inl (G.2.1.2.2.1, 16, .inr (.inl mn)))]) (ws' := [(m0, .inr (10, [.int rz, .ref m1, .ref m2, .ref m3, .int hf, .int hs, .ref m6, .int len, .int ((f_X7_instruction len ec ep t1.2.1 t1.2.2 bad plc text draft wri (f_X7_opcodeOf mn t1.1)).1), .int ((f_X7_instruction len ec ep t1.2.1 t1.2.2 bad plc text draft wri (f_X7_opcodeOf mn t1.1)).2.1), .int ((f_X7_instruction len ec ep t1.2.1 t1.2.2 bad plc text draft wri (f_X7_opcodeOf mn t1.1)).2.2.1), .int ((f_X7_instruction len ec ep t1.2.1 t1.2.2 bad plc text draft wri (f_X7_opcodeOf mn t1.1)).2.2.2.1), .int ((f_X7_instruction len ec ep t1.2.1 t1.2.2 bad plc text draft wri (f_X7_opcodeOf mn t1.1)).2.2.2.2.1), .ref m13, .ref m14, .int ((f_X7_instruction len ec ep t1.2.1 t1.2.2 bad plc text draft wri (f_X7_opcodeOf mn t1.1)).2.2.2.2.2.1), .int sta, .ref m17, .ref m18, .ref m19, .int shm])), (m6, .inl (G.2.1.1, 600, .inl text)), (m13, .inl (G.2.1.1, 256, .inl ((f_X7_instruction len ec ep t1.2.1 t1.2.2 bad plc text draft wri (f_X7_opcodeOf mn t1.1)).2.2.2.2.2.2.1))), (m14, .inl (G.2.1.2.1, 256, .inl ((f_X7_instruction len ec ep t1.2.1 t1.2.2 bad plc text draft wri (f_X7_opcodeOf mn t1.1)).2.2.2.2.2.2.2))), (m17, .inl (G.2.1.2.2.1, 16, .inr (.inl mn)))]) F (c_X7_instruction l G m0 m1 m2 m3 m6 m13 m14 m17 m18 m19 rz hf hs len ec ep t1.2.1 t1.2.2 bad plc sta shm text draft wri (f_X7_opcodeOf mn t1.1) hlen (by have o0 : (0 : Int32).toInt = 0 := (by decide); have o1 : (1 : Int32).toInt = 1 := (by decide); have q0 := word_pos hlen (by omega) et1; omega) hplc) okV_X7_instruction k_ml_X7_187 rfl rfl ⟨Nat.le_of_ble_eq_true rfl, Nat.le_of_ble_eq_true rfl⟩ hN hK hP hD hS hA [0, 1, 2, 3] [4] [1, 2, 3, 4, 0] (by decide) rfl rfl (by decide) (by decide) (by decide) rfl (q0 := 0) rfl rfl rfl rfl hl.1 (Nat.le_of_ble_eq_true rfl) dX7_statement_171 ⟨Nat.le_refl _, Nat.le_refl _⟩ (fun H locs hP hD hS => ?_)
            generalize et7 : (f_X7_instruction len ec ep t1.2.1 t1.2.2 bad plc text draft wri (f_X7_opcodeOf mn t1.1)) = t7 at hP hD ⊢
            refine lv_aload_n hx hb dX7_statement_174 rfl (lv_at hl 3 rfl) ?_
            refine lv_bipush (v := 59) hx hb dX7_statement_175 (by decide) ?_
            refine gV (As := [.int 59]) (rest := []) (wr := [(m13, .inl (G.2.1.1, 256, .inl t7.2.2.2.2.2.2.1)), (m14, .inl (G.2.1.2.1, 256, .inl t7.2.2.2.2.2.2.2)), (m17, .inl (G.2.1.2.2.1, 16, .inr (.inl mn)))]) (ws' := [(m0, .inr (10, [.int rz, .ref m1, .ref m2, .ref m3, .int hf, .int hs, .ref m6, .int len, .int ((f_X7_sign len t7.1 t7.2.1 t7.2.2.1 t7.2.2.2.2.1 text 59).1), .int ((f_X7_sign len t7.1 t7.2.1 t7.2.2.1 t7.2.2.2.2.1 text 59).2.1), .int ((f_X7_sign len t7.1 t7.2.1 t7.2.2.1 t7.2.2.2.2.1 text 59).2.2.1), .int t7.2.2.2.1, .int ((f_X7_sign len t7.1 t7.2.1 t7.2.2.1 t7.2.2.2.2.1 text 59).2.2.2), .ref m13, .ref m14, .int t7.2.2.2.2.2.1, .int sta, .ref m17, .ref m18, .ref m19, .int shm])), (m6, .inl (G.2.1.1, 600, .inl text)), (m13, .inl (G.2.1.1, 256, .inl t7.2.2.2.2.2.2.1)), (m14, .inl (G.2.1.2.1, 256, .inl t7.2.2.2.2.2.2.2)), (m17, .inl (G.2.1.2.2.1, 16, .inr (.inl mn)))]) F (c_X7_sign l G m0 m1 m2 m3 m6 m13 m14 m17 m18 m19 rz hf hs len t7.1 t7.2.1 t7.2.2.1 t7.2.2.2.1 t7.2.2.2.2.1 t7.2.2.2.2.2.1 sta shm text 59 hlen (by have o0 : (0 : Int32).toInt = 0 := (by decide); have o1 : (1 : Int32).toInt = 1 := (by decide); have q0 := word_pos hlen (by omega) et1; have q1 := inst_pos0 hlen (by omega) (by omega) et7; omega)) okV_X7_sign k_ml_X7_145 rfl rfl ⟨Nat.le_of_ble_eq_true rfl, Nat.le_of_ble_eq_true rfl⟩ hN hK hP hD hS hA [0, 1] [2, 3, 4] [3, 4, 0, 1, 2] (by decide) rfl rfl (by decide) (by decide) (by decide) rfl (q0 := 0) rfl rfl rfl rfl hl.1 (Nat.le_of_ble_eq_true rfl) dX7_statement_177 ⟨Nat.le_refl _, Nat.le_refl _⟩ (fun H locs hP hD hS => ?_)
            generalize et8 : (f_X7_sign len t7.1 t7.2.1 t7.2.2.1 t7.2.2.2.2.1 text 59) = t8 at hP hD ⊢
            have ef : (f_X7_statement len ec ep pos bad plc sta text draft wri mn) = (t8.1, t8.2.1, t8.2.2.1, t7.2.2.2.1, t8.2.2.2, t7.2.2.2.2.2.1, sta, t7.2.2.2.2.2.2.1, t7.2.2.2.2.2.2.2) := (by subst et8; subst et7; subst et1; exact ((if_neg c_2).trans ((if_neg c_3).trans ((if_neg c_4).trans (if_pos c_5)))))
            exact gRetV F hr hlocks hK hP hD hS rfl (by rw [ef]) (Nat.le_of_ble_eq_true rfl) (Nat.le_of_ble_eq_true rfl) dX7_statement_180
          · first | exact absurd c_4 c_6 | exact absurd c_6 c_4
        · skip
          refine lv_aload_n hx hb dX7_statement_90 rfl (lv_at hl 3 rfl) ?_
          refine lv_iconst (v := 3) hx hb dX7_statement_91 (by decide) ?_
          refine lv_iload_n hx hb dX7_statement_92 rfl (lv_at hl 1 rfl) ?_
          refine gV (As := [.int 3, .int t1.2.2]) (rest := []) (wr := [(m6, .inl (G.2.1.1, 600, .inl text)), (m13, .inl (G.2.1.1, 256, .inl draft)), (m14, .inl (G.2.1.2.1, 256, .inl wri)), (m17, .inl (G.2.1.2.2.1, 16, .inr (.inl mn)))]) (ws' := [(m0, .inr (10, [.int rz, .ref m1, .ref m2, .ref m3, .int hf, .int hs, .ref m6, .int len, .int ((f_X7_wrong ec ep bad 3 t1.2.2).1), .int ((f_X7_wrong ec ep bad 3 t1.2.2).2.1), .int t1.2.1, .int t1.2.2, .int ((f_X7_wrong ec ep bad 3 t1.2.2).2.2), .ref m13, .ref m14, .int plc, .int sta, .ref m17, .ref m18, .ref m19, .int shm])), (m6, .inl (G.2.1.1, 600, .inl text)), (m13, .inl (G.2.1.1, 256, .inl draft)), (m14, .inl (G.2.1.2.1, 256, .inl wri)), (m17, .inl (G.2.1.2.2.1, 16, .inr (.inl mn)))]) F (c_X7_wrong l G m0 m1 m2 m3 m6 m13 m14 m17 m18 m19 rz hf hs len ec ep t1.2.1 t1.2.2 bad plc sta shm 3 t1.2.2) okV_X7_wrong k_ml_X7_137 rfl rfl ⟨Nat.le_of_ble_eq_true rfl, Nat.le_of_ble_eq_true rfl⟩ hN hK hP hD hS hA [0] [1, 2, 3, 4] [4, 0, 1, 2, 3] (by decide) rfl rfl (by decide) (by decide) (by decide) rfl (q0 := 0) rfl rfl rfl rfl hl.1 (Nat.le_of_ble_eq_true rfl) dX7_statement_93 ⟨Nat.le_refl _, Nat.le_refl _⟩ (fun H locs hP hD hS => ?_)
          generalize et9 : (f_X7_wrong ec ep bad 3 t1.2.2) = t9 at hP hD ⊢
          refine lv_goto (tgt := 174) hx hb dX7_statement_96 (by decide) ?_
          refine lv_aload_n hx hb dX7_statement_174 rfl (lv_at hl 3 rfl) ?_
          refine lv_bipush (v := 59) hx hb dX7_statement_175 (by decide) ?_
          refine gV (As := [.int 59]) (rest := []) (wr := [(m13, .inl (G.2.1.1, 256, .inl draft)), (m14, .inl (G.2.1.2.1, 256, .inl wri)), (m17, .inl (G.2.1.2.2.1, 16, .inr (.inl mn)))]) (ws' := [(m0, .inr (10, [.int rz, .ref m1, .ref m2, .ref m3, .int hf, .int hs, .ref m6, .int len, .int ((f_X7_sign len t9.1 t9.2.1 t1.2.1 t9.2.2 text 59).1), .int ((f_X7_sign len t9.1 t9.2.1 t1.2.1 t9.2.2 text 59).2.1), .int ((f_X7_sign len t9.1 t9.2.1 t1.2.1 t9.2.2 text 59).2.2.1), .int t1.2.2, .int ((f_X7_sign len t9.1 t9.2.1 t1.2.1 t9.2.2 text 59).2.2.2), .ref m13, .ref m14, .int plc, .int sta, .ref m17, .ref m18, .ref m19, .int shm])), (m6, .inl (G.2.1.1, 600, .inl text)), (m13, .inl (G.2.1.1, 256, .inl draft)), (m14, .inl (G.2.1.2.1, 256, .inl wri)), (m17, .inl (G.2.1.2.2.1, 16, .inr (.inl mn)))]) F (c_X7_sign l G m0 m1 m2 m3 m6 m13 m14 m17 m18 m19 rz hf hs len t9.1 t9.2.1 t1.2.1 t1.2.2 t9.2.2 plc sta shm text 59 hlen (by have o0 : (0 : Int32).toInt = 0 := (by decide); have o1 : (1 : Int32).toInt = 1 := (by decide); have q0 := word_pos hlen (by omega) et1; omega)) okV_X7_sign k_ml_X7_145 rfl rfl ⟨Nat.le_of_ble_eq_true rfl, Nat.le_of_ble_eq_true rfl⟩ hN hK hP hD hS hA [0, 1] [2, 3, 4] [3, 4, 0, 1, 2] (by decide) rfl rfl (by decide) (by decide) (by decide) rfl (q0 := 0) rfl rfl rfl rfl hl.1 (Nat.le_of_ble_eq_true rfl) dX7_statement_177 ⟨Nat.le_refl _, Nat.le_refl _⟩ (fun H locs hP hD hS => ?_)
          generalize et10 : (f_X7_sign len t9.1 t9.2.1 t1.2.1 t9.2.2 text 59) = t10 at hP hD ⊢
          have ef : (f_X7_statement len ec ep pos bad plc sta text draft wri mn) = (t10.1, t10.2.1, t10.2.2.1, t1.2.2, t10.2.2.2, plc, sta, draft, wri) := (by subst et10; subst et9; subst et1; exact ((if_neg c_2).trans ((if_neg c_3).trans ((if_neg c_4).trans (if_neg c_5)))))
          exact gRetV F hr hlocks hK hP hD hS rfl (by rw [ef]) (Nat.le_of_ble_eq_true rfl) (Nat.le_of_ble_eq_true rfl) dX7_statement_180
      · skip
        refine lv_lload_n hx hb dX7_statement_61 rfl (lv_at hl 2 rfl) ?_
        refine lv_ldc2 (v := 464134) hx hb hown (hts _ k_lc_X7_184) dX7_statement_62 ?_
        refine gLc_eq (tgt := 78) hx hb dX7_statement_65 dX7_statement_66 (by decide) (fun c_11 => ?_) (fun c_11 => ?_)
        · skip
          refine lv_aload_n hx hb dX7_statement_78 rfl (lv_at hl 3 rfl) ?_
          refine va_get (D := G.1) (ci := 10) (v := .ref m14) (C := RX7) (T := TX7) (N := 21) hx hb hts in_X7 hown hK hP 0 rfl rfl 14 (by decide) (hts _ k_fl_X7_29) (fun _ h9 => h9) rfl dX7_statement_79 ?_
          refine lv_aload_n hx hb dX7_statement_82 rfl (lv_at hl 3 rfl) ?_
          refine va_get (D := G.1) (ci := 10) (v := .int plc) (C := RX7) (T := TX7) (N := 21) hx hb hts in_X7 hown hK hP 0 rfl rfl 15 (by decide) (hts _ k_fl_X7_148) (fun _ h9 => h9) rfl dX7_statement_83 ?_
          refine va_zald hx hb hK hP 3 1 rfl rfl (by (try rw [vp_in_iff]); omega) dX7_statement_86 ?_
          refine lv_if_eq (tgt := 99) hx hb dX7_statement_87 (by decide) (fun c_12 => ?_) (fun c_12 => ?_)
          · skip
            refine lv_iload hx hb dX7_statement_99 (lv_at hl 0 rfl) ?_
            refine lv_iconst (v := (-1)) hx hb dX7_statement_101 (by decide) ?_
            refine lv_icmp_ne (tgt := 168) hx hb dX7_statement_102 (by decide) (fun c_13 => ?_) (fun c_13 => ?_)
            · first | exact absurd c_4 c_13 | exact absurd c_13 c_4
            · skip
              refine lv_aload_n hx hb dX7_statement_105 rfl (lv_at hl 3 rfl) ?_
              refine gV (As := []) (rest := []) (wr := [(m13, .inl (G.2.1.1, 256, .inl draft)), (m14, .inl (G.2.1.2.1, 256, .inl wri)), (m17, .inl (G.2.1.2.2.1, 16, .inr (.inl mn)))]) (ws' := [(m0, .inr (10, [.int rz, .ref m1, .ref m2, .ref m3, .int hf, .int hs, .ref m6, .int len, .int ec, .int ep, .int ((f_X7_here len t1.2.1 text).2), .int t1.2.2, .int bad, .ref m13, .ref m14, .int plc, .int sta, .ref m17, .ref m18, .ref m19, .int shm])), (m6, .inl (G.2.1.1, 600, .inl text)), (m13, .inl (G.2.1.1, 256, .inl draft)), (m14, .inl (G.2.1.2.1, 256, .inl wri)), (m17, .inl (G.2.1.2.2.1, 16, .inr (.inl mn)))]) F (c_X7_here l G m0 m1 m2 m3 m6 m13 m14 m17 m18 m19 rz hf hs len ec ep t1.2.1 t1.2.2 bad plc sta shm text hlen (by have o0 : (0 : Int32).toInt = 0 := (by decide); have o1 : (1 : Int32).toInt = 1 := (by decide); have q0 := word_pos hlen (by omega) et1; omega)) okV_X7_here k_ml_X7_116 rfl rfl ⟨Nat.le_of_ble_eq_true rfl, Nat.le_of_ble_eq_true rfl⟩ hN hK hP hD hS hA [0, 1] [2, 3, 4] [3, 4, 0, 1, 2] (by decide) rfl rfl (by decide) (by decide) (by decide) rfl (q0 := 0) rfl rfl rfl rfl hl.1 (Nat.le_of_ble_eq_true rfl) dX7_statement_106 ⟨Nat.le_refl _, Nat.le_refl _⟩ (fun H locs hP hD hS => ?_)
              generalize et14 : (f_X7_here len t1.2.1 text) = t14 at hP hD ⊢
              refine lv_bipush (v := 45) hx hb dX7_statement_109 (by decide) ?_
              refine lv_icmp_ne (tgt := 118) hx hb dX7_statement_111 (by decide) (fun c_15 => ?_) (fun c_15 => ?_)
              · skip
                refine lv_iconst (v := 0) hx hb dX7_statement_118 (by decide) ?_
                refine lv_istore (lv' := [(5, .int 0), (4, .int (f_X7_opcodeOf mn t1.1)), (3, .int t1.2.2), (1, .long t1.1), (0, .ref m0)]) hx hb dX7_statement_119 hl (by decide) rfl (fun ls hl => ?_)
                refine lv_aload_n hx hb dX7_statement_121 rfl (lv_at hl 4 rfl) ?_
                refine lv_dup hx hb dX7_statement_122 rfl ?_
                refine va_get (D := G.1) (ci := 10) (v := .int t14.2) (C := RX7) (T := TX7) (N := 21) hx hb hts in_X7 hown hK hP 0 rfl rfl 10 (by decide) (hts _ k_fl_X7_106) (fun _ h9 => h9) rfl dX7_statement_123 ?_
                refine lv_iload hx hb dX7_statement_126 (lv_at hl 0 rfl) ?_
                refine lv_if_eq (tgt := 135) hx hb dX7_statement_128 (by decide) (fun c_16 => ?_) (fun c_16 => ?_)
                · skip
                  refine lv_iconst (v := 0) hx hb dX7_statement_135 (by decide) ?_
                  refine lv_iadd hx hb dX7_statement_136 ?_
                  refine va_put (D := G.1) (ci := 10) (v := .int (t14.2 + 0)) (ty := .int) (C := RX7) (T := TX7) (N := 21) hx hb hts in_X7 tyX7 tyX7_ok nmX7 hown hK hP hD hS 0 rfl rfl 10 (by decide) (hts _ k_fl_X7_106) (fun _ h9 => h9) rfl (by decide +kernel) rfl rfl (Nat.le_of_ble_eq_true rfl) dX7_statement_137 (fun H locs hP hD hS => ?_)
                  replace hP : va_P G.1 vwCl [(m0, .inr (10, [.int rz, .ref m1, .ref m2, .ref m3, .int hf, .int hs, .ref m6, .int len, .int ec, .int ep, .int (t14.2 + 0), .int t1.2.2, .int bad, .ref m13, .ref m14, .int plc, .int sta, .ref m17, .ref m18, .ref m19, .int shm])), (m6, .inl (G.2.1.1, 600, .inl text)), (m13, .inl (G.2.1.1, 256, .inl draft)), (m14, .inl (G.2.1.2.1, 256, .inl wri)), (m17, .inl (G.2.1.2.2.1, 16, .inr (.inl mn)))] H := hP
                  replace hD : va_D A [(m0, .inr (10, [.int rz, .ref m1, .ref m2, .ref m3, .int hf, .int hs, .ref m6, .int len, .int ec, .int ep, .int (t14.2 + 0), .int t1.2.2, .int bad, .ref m13, .ref m14, .int plc, .int sta, .ref m17, .ref m18, .ref m19, .int shm])), (m6, .inl (G.2.1.1, 600, .inl text)), (m13, .inl (G.2.1.1, 256, .inl draft)), (m14, .inl (G.2.1.2.1, 256, .inl wri)), (m17, .inl (G.2.1.2.2.1, 16, .inr (.inl mn)))] := hD
                  refine lv_aload_n hx hb dX7_statement_140 rfl (lv_at hl 4 rfl) ?_
                  refine lv_ldc (v := (-524288)) hx hb hown (hts _ k_co_X7_186) dX7_statement_141 ?_
                  refine lv_ldc (v := 524287) hx hb hown (hts _ k_co_X7_93) dX7_statement_143 ?_
                  refine lv_iload hx hb dX7_statement_145 (lv_at hl 0 rfl) ?_
                  refine gV (As := [.int (-524288), .int 524287, .int 0]) (rest := []) (wr := [(m13, .inl (G.2.1.1, 256, .inl draft)), (m14, .inl (G.2.1.2.1, 256, .inl wri)), (m17, .inl (G.2.1.2.2.1, 16, .inr (.inl mn)))]) (ws' := [(m0, .inr (10, [.int rz, .ref m1, .ref m2, .ref m3, .int hf, .int hs, .ref m6, .int len, .int ((f_X7_number len ec ep (t14.2 + 0) bad text (-524288) 524287 0).2.1), .int ((f_X7_number len ec ep (t14.2 + 0) bad text (-524288) 524287 0).2.2.1), .int ((f_X7_number len ec ep (t14.2 + 0) bad text (-524288) 524287 0).2.2.2.1), .int t1.2.2, .int ((f_X7_number len ec ep (t14.2 + 0) bad text (-524288) 524287 0).2.2.2.2), .ref m13, .ref m14, .int plc, .int sta, .ref m17, .ref m18, .ref m19, .int shm])), (m6, .inl (G.2.1.1, 600, .inl text)), (m13, .inl (G.2.1.1, 256, .inl draft)), (m14, .inl (G.2.1.2.1, 256, .inl wri)), (m17, .inl (G.2.1.2.2.1, 16, .inr (.inl mn)))]) F (c_X7_number l G m0 m1 m2 m3 m6 m13 m14 m17 m18 m19 rz hf hs len ec ep (t14.2 + 0) t1.2.2 bad plc sta shm text (-524288) 524287 0 hlen (by have o0 : (0 : Int32).toInt = 0 := (by decide); have o1 : (1 : Int32).toInt = 1 := (by decide); have q0 := word_pos hlen (by omega) et1; have q1 := here_pos hlen (by omega) et14; have za := gI_add (x := t14.2) (y := 0) (by omega) (by omega); omega)) okV_X7_number k_ml_X7_141 rfl rfl ⟨Nat.le_of_ble_eq_true rfl, Nat.le_of_ble_eq_true rfl⟩ hN hK hP hD hS hA [0, 1] [2, 3, 4] [3, 4, 0, 1, 2] (by decide) rfl rfl (by decide) (by decide) (by decide) rfl (q0 := 0) rfl rfl rfl rfl hl.1 (Nat.le_of_ble_eq_true rfl) dX7_statement_147 ⟨Nat.le_refl _, Nat.le_refl _⟩ (fun H locs hP hD hS => ?_)
                  generalize et17 : (f_X7_number len ec ep (t14.2 + 0) bad text (-524288) 524287 0) = t17 at hP hD ⊢
                  refine lv_istore (lv' := [(6, .int t17.1), (5, .int 0), (4, .int (f_X7_opcodeOf mn t1.1)), (3, .int t1.2.2), (1, .long t1.1), (0, .ref m0)]) hx hb dX7_statement_150 hl (by decide) rfl (fun ls hl => ?_)
                  refine lv_aload_n hx hb dX7_statement_152 rfl (lv_at hl 5 rfl) ?_
                  refine va_get (D := G.1) (ci := 10) (v := .int t17.2.2.2.2) (C := RX7) (T := TX7) (N := 21) hx hb hts in_X7 hown hK hP 0 rfl rfl 12 (by decide) (hts _ k_fl_X7_109) (fun _ h9 => h9) rfl dX7_statement_153 ?_
                  refine lv_if_ne (tgt := 165) hx hb dX7_statement_156 (by decide) (fun c_18 => ?_) (fun c_18 => ?_)
                  · skip
                    refine lv_goto (tgt := 174) hx hb dX7_statement_165 (by decide) ?_
                    refine lv_aload_n hx hb dX7_statement_174 rfl (lv_at hl 5 rfl) ?_
                    refine lv_bipush (v := 59) hx hb dX7_statement_175 (by decide) ?_
                    refine gV (As := [.int 59]) (rest := []) (wr := [(m13, .inl (G.2.1.1, 256, .inl draft)), (m14, .inl (G.2.1.2.1, 256, .inl wri)), (m17, .inl (G.2.1.2.2.1, 16, .inr (.inl mn)))]) (ws' := [(m0, .inr (10, [.int rz, .ref m1, .ref m2, .ref m3, .int hf, .int hs, .ref m6, .int len, .int ((f_X7_sign len t17.2.1 t17.2.2.1 t17.2.2.2.1 t17.2.2.2.2 text 59).1), .int ((f_X7_sign len t17.2.1 t17.2.2.1 t17.2.2.2.1 t17.2.2.2.2 text 59).2.1), .int ((f_X7_sign len t17.2.1 t17.2.2.1 t17.2.2.2.1 t17.2.2.2.2 text 59).2.2.1), .int t1.2.2, .int ((f_X7_sign len t17.2.1 t17.2.2.1 t17.2.2.2.1 t17.2.2.2.2 text 59).2.2.2), .ref m13, .ref m14, .int plc, .int sta, .ref m17, .ref m18, .ref m19, .int shm])), (m6, .inl (G.2.1.1, 600, .inl text)), (m13, .inl (G.2.1.1, 256, .inl draft)), (m14, .inl (G.2.1.2.1, 256, .inl wri)), (m17, .inl (G.2.1.2.2.1, 16, .inr (.inl mn)))]) F (c_X7_sign l G m0 m1 m2 m3 m6 m13 m14 m17 m18 m19 rz hf hs len t17.2.1 t17.2.2.1 t17.2.2.2.1 t1.2.2 t17.2.2.2.2 plc sta shm text 59 hlen (by have o0 : (0 : Int32).toInt = 0 := (by decide); have o1 : (1 : Int32).toInt = 1 := (by decide); have q0 := word_pos hlen (by omega) et1; have q1 := here_pos hlen (by omega) et14; have za2 := gI_add (x := t14.2) (y := 0) (by omega) (by omega); have q2 := number_pos hlen (by omega) et17; omega)) okV_X7_sign k_ml_X7_145 rfl rfl ⟨Nat.le_of_ble_eq_true rfl, Nat.le_of_ble_eq_true rfl⟩ hN hK hP hD hS hA [0, 1] [2, 3, 4] [3, 4, 0, 1, 2] (by decide) rfl rfl (by decide) (by decide) (by decide) rfl (q0 := 0) rfl rfl rfl rfl hl.1 (Nat.le_of_ble_eq_true rfl) dX7_statement_177 ⟨Nat.le_refl _, Nat.le_refl _⟩ (fun H locs hP hD hS => ?_)
                    generalize et19 : (f_X7_sign len t17.2.1 t17.2.2.1 t17.2.2.2.1 t17.2.2.2.2 text 59) = t19 at hP hD ⊢
                    have ef : (f_X7_statement len ec ep pos bad plc sta text draft wri mn) = (t19.1, t19.2.1, t19.2.2.1, t1.2.2, t19.2.2.2, plc, sta, draft, wri) := (by subst et19; subst et17; subst et14; subst et1; exact ((if_neg c_2).trans ((if_neg c_3).trans ((if_pos c_4).trans ((if_pos c_11).trans ((if_pos c_12).trans ((if_neg c_15).trans (if_neg c_18))))))))
                    exact gRetV F hr hlocks hK hP hD hS rfl (by rw [ef]) (Nat.le_of_ble_eq_true rfl) (Nat.le_of_ble_eq_true rfl) dX7_statement_180
                  · skip
                    refine lv_aload_n hx hb dX7_statement_159 rfl (lv_at hl 5 rfl) ?_
                    refine lv_iload hx hb dX7_statement_160 (lv_at hl 0 rfl) ?_
                    refine gV (As := [.int t17.1]) (rest := []) (wr := [(m6, .inl (G.2.1.1, 600, .inl text)), (m17, .inl (G.2.1.2.2.1, 16, .inr (.inl mn)))]) (ws' := [(m0, .inr (10, [.int rz, .ref m1, .ref m2, .ref m3, .int hf, .int hs, .ref m6, .int len, .int t17.2.1, .int t17.2.2.1, .int t17.2.2.2.1, .int t1.2.2, .int t17.2.2.2.2, .ref m13, .ref m14, .int ((f_X7_writes plc draft wri t17.1).1), .int sta, .ref m17, .ref m18, .ref m19, .int shm])), (m6, .inl (G.2.1.1, 600, .inl text)), (m13, .inl (G.2.1.1, 256, .inl ((f_X7_writes plc draft wri t17.1).2.1))), (m14, .inl (G.2.1.2.1, 256, .inl ((f_X7_writes plc draft wri t17.1).2.2))), (m17, .inl (G.2.1.2.2.1, 16, .inr (.inl mn)))]) F (c_X7_writes l G m0 m1 m2 m3 m6 m13 m14 m17 m18 m19 rz hf hs len t17.2.1 t17.2.2.1 t17.2.2.2.1 t1.2.2 t17.2.2.2.2 plc sta shm draft wri t17.1 hplc) okV_X7_writes k_ml_X7_170 rfl rfl ⟨Nat.le_of_ble_eq_true rfl, Nat.le_of_ble_eq_true rfl⟩ hN hK hP hD hS hA [0, 2, 3] [1, 4] [2, 0, 3, 4, 1] (by decide) rfl rfl (by decide) (by decide) (by decide) rfl (q0 := 0) rfl rfl rfl rfl hl.1 (Nat.le_of_ble_eq_true rfl) dX7_statement_162 ⟨Nat.le_refl _, Nat.le_refl _⟩ (fun H locs hP hD hS => ?_)
                    generalize et20 : (f_X7_writes plc draft wri t17.1) = t20 at hP hD ⊢
                    refine lv_goto (tgt := 174) hx hb dX7_statement_165 (by decide) ?_
                    refine lv_aload_n hx hb dX7_statement_174 rfl (lv_at hl 5 rfl) ?_
                    refine lv_bipush (v := 59) hx hb dX7_statement_175 (by decide) ?_
                    refine gV (As := [.int 59]) (rest := []) (wr := [(m13, .inl (G.2.1.1, 256, .inl t20.2.1)), (m14, .inl (G.2.1.2.1, 256, .inl t20.2.2)), (m17, .inl (G.2.1.2.2.1, 16, .inr (.inl mn)))]) (ws' := [(m0, .inr (10, [.int rz, .ref m1, .ref m2, .ref m3, .int hf, .int hs, .ref m6, .int len, .int ((f_X7_sign len t17.2.1 t17.2.2.1 t17.2.2.2.1 t17.2.2.2.2 text 59).1), .int ((f_X7_sign len t17.2.1 t17.2.2.1 t17.2.2.2.1 t17.2.2.2.2 text 59).2.1), .int ((f_X7_sign len t17.2.1 t17.2.2.1 t17.2.2.2.1 t17.2.2.2.2 text 59).2.2.1), .int t1.2.2, .int ((f_X7_sign len t17.2.1 t17.2.2.1 t17.2.2.2.1 t17.2.2.2.2 text 59).2.2.2), .ref m13, .ref m14, .int t20.1, .int sta, .ref m17, .ref m18, .ref m19, .int shm])), (m6, .inl (G.2.1.1, 600, .inl text)), (m13, .inl (G.2.1.1, 256, .inl t20.2.1)), (m14, .inl (G.2.1.2.1, 256, .inl t20.2.2)), (m17, .inl (G.2.1.2.2.1, 16, .inr (.inl mn)))]) F (c_X7_sign l G m0 m1 m2 m3 m6 m13 m14 m17 m18 m19 rz hf hs len t17.2.1 t17.2.2.1 t17.2.2.2.1 t1.2.2 t17.2.2.2.2 t20.1 sta shm text 59 hlen (by have o0 : (0 : Int32).toInt = 0 := (by decide); have o1 : (1 : Int32).toInt = 1 := (by decide); have q0 := word_pos hlen (by omega) et1; have q1 := here_pos hlen (by omega) et14; have za2 := gI_add (x := t14.2) (y := 0) (by omega) (by omega); have q2 := number_pos hlen (by omega) et17; omega)) okV_X7_sign k_ml_X7_145 rfl rfl ⟨Nat.le_of_ble_eq_true rfl, Nat.le_of_ble_eq_true rfl⟩ hN hK hP hD hS hA [0, 1] [2, 3, 4] [3, 4, 0, 1, 2] (by decide) rfl rfl (by decide) (by decide) (by decide) rfl (q0 := 0) rfl rfl rfl rfl hl.1 (Nat.le_of_ble_eq_true rfl) dX7_statement_177 ⟨Nat.le_refl _, Nat.le_refl _⟩ (fun H locs hP hD hS => ?_)
                    generalize et21 : (f_X7_sign len t17.2.1 t17.2.2.1 t17.2.2.2.1 t17.2.2.2.2 text 59) = t21 at hP hD ⊢
                    have ef : (f_X7_statement len ec ep pos bad plc sta text draft wri mn) = (t21.1, t21.2.1, t21.2.2.1, t1.2.2, t21.2.2.2, t20.1, sta, t20.2.1, t20.2.2) := (by subst et21; subst et20; subst et17; subst et14; subst et1; exact ((if_neg c_2).trans ((if_neg c_3).trans ((if_pos c_4).trans ((if_pos c_11).trans ((if_pos c_12).trans ((if_neg c_15).trans (if_pos c_18))))))))
                    exact gRetV F hr hlocks hK hP hD hS rfl (by rw [ef]) (Nat.le_of_ble_eq_true rfl) (Nat.le_of_ble_eq_true rfl) dX7_statement_180
                · exact absurd c_16 (by decide)
              · skip
                refine lv_iconst (v := 1) hx hb dX7_statement_114 (by decide) ?_
                refine lv_goto (tgt := 119) hx hb dX7_statement_115 (by decide) ?_
                refine lv_istore (lv' := [(5, .int 1), (4, .int (f_X7_opcodeOf mn t1.1)), (3, .int t1.2.2), (1, .long t1.1), (0, .ref m0)]) hx hb dX7_statement_119 hl (by decide) rfl (fun ls hl => ?_)
                refine lv_aload_n hx hb dX7_statement_121 rfl (lv_at hl 4 rfl) ?_
                refine lv_dup hx hb dX7_statement_122 rfl ?_
                refine va_get (D := G.1) (ci := 10) (v := .int t14.2) (C := RX7) (T := TX7) (N := 21) hx hb hts in_X7 hown hK hP 0 rfl rfl 10 (by decide) (hts _ k_fl_X7_106) (fun _ h9 => h9) rfl dX7_statement_123 ?_
                refine lv_iload hx hb dX7_statement_126 (lv_at hl 0 rfl) ?_
                refine lv_if_eq (tgt := 135) hx hb dX7_statement_128 (by decide) (fun c_22 => ?_) (fun c_22 => ?_)
                · exact absurd c_22 (by decide)
                · skip
                  refine lv_iconst (v := 1) hx hb dX7_statement_131 (by decide) ?_
                  refine lv_goto (tgt := 136) hx hb dX7_statement_132 (by decide) ?_
                  refine lv_iadd hx hb dX7_statement_136 ?_
                  refine va_put (D := G.1) (ci := 10) (v := .int (t14.2 + 1)) (ty := .int) (C := RX7) (T := TX7) (N := 21) hx hb hts in_X7 tyX7 tyX7_ok nmX7 hown hK hP hD hS 0 rfl rfl 10 (by decide) (hts _ k_fl_X7_106) (fun _ h9 => h9) rfl (by decide +kernel) rfl rfl (Nat.le_of_ble_eq_true rfl) dX7_statement_137 (fun H locs hP hD hS => ?_)
                  replace hP : va_P G.1 vwCl [(m0, .inr (10, [.int rz, .ref m1, .ref m2, .ref m3, .int hf, .int hs, .ref m6, .int len, .int ec, .int ep, .int (t14.2 + 1), .int t1.2.2, .int bad, .ref m13, .ref m14, .int plc, .int sta, .ref m17, .ref m18, .ref m19, .int shm])), (m6, .inl (G.2.1.1, 600, .inl text)), (m13, .inl (G.2.1.1, 256, .inl draft)), (m14, .inl (G.2.1.2.1, 256, .inl wri)), (m17, .inl (G.2.1.2.2.1, 16, .inr (.inl mn)))] H := hP
                  replace hD : va_D A [(m0, .inr (10, [.int rz, .ref m1, .ref m2, .ref m3, .int hf, .int hs, .ref m6, .int len, .int ec, .int ep, .int (t14.2 + 1), .int t1.2.2, .int bad, .ref m13, .ref m14, .int plc, .int sta, .ref m17, .ref m18, .ref m19, .int shm])), (m6, .inl (G.2.1.1, 600, .inl text)), (m13, .inl (G.2.1.1, 256, .inl draft)), (m14, .inl (G.2.1.2.1, 256, .inl wri)), (m17, .inl (G.2.1.2.2.1, 16, .inr (.inl mn)))] := hD
                  refine lv_aload_n hx hb dX7_statement_140 rfl (lv_at hl 4 rfl) ?_
                  refine lv_ldc (v := (-524288)) hx hb hown (hts _ k_co_X7_186) dX7_statement_141 ?_
                  refine lv_ldc (v := 524287) hx hb hown (hts _ k_co_X7_93) dX7_statement_143 ?_
                  refine lv_iload hx hb dX7_statement_145 (lv_at hl 0 rfl) ?_
                  refine gV (As := [.int (-524288), .int 524287, .int 1]) (rest := []) (wr := [(m13, .inl (G.2.1.1, 256, .inl draft)), (m14, .inl (G.2.1.2.1, 256, .inl wri)), (m17, .inl (G.2.1.2.2.1, 16, .inr (.inl mn)))]) (ws' := [(m0, .inr (10, [.int rz, .ref m1, .ref m2, .ref m3, .int hf, .int hs, .ref m6, .int len, .int ((f_X7_number len ec ep (t14.2 + 1) bad text (-524288) 524287 1).2.1), .int ((f_X7_number len ec ep (t14.2 + 1) bad text (-524288) 524287 1).2.2.1), .int ((f_X7_number len ec ep (t14.2 + 1) bad text (-524288) 524287 1).2.2.2.1), .int t1.2.2, .int ((f_X7_number len ec ep (t14.2 + 1) bad text (-524288) 524287 1).2.2.2.2), .ref m13, .ref m14, .int plc, .int sta, .ref m17, .ref m18, .ref m19, .int shm])), (m6, .inl (G.2.1.1, 600, .inl text)), (m13, .inl (G.2.1.1, 256, .inl draft)), (m14, .inl (G.2.1.2.1, 256, .inl wri)), (m17, .inl (G.2.1.2.2.1, 16, .inr (.inl mn)))]) F (c_X7_number l G m0 m1 m2 m3 m6 m13 m14 m17 m18 m19 rz hf hs len ec ep (t14.2 + 1) t1.2.2 bad plc sta shm text (-524288) 524287 1 hlen (by have o0 : (0 : Int32).toInt = 0 := (by decide); have o1 : (1 : Int32).toInt = 1 := (by decide); have q0 := word_pos hlen (by omega) et1; have q1 := here_pos hlen (by omega) et14; have za := gI_add (x := t14.2) (y := 1) (by omega) (by omega); omega)) okV_X7_number k_ml_X7_141 rfl rfl ⟨Nat.le_of_ble_eq_true rfl, Nat.le_of_ble_eq_true rfl⟩ hN hK hP hD hS hA [0, 1] [2, 3, 4] [3, 4, 0, 1, 2] (by decide) rfl rfl (by decide) (by decide) (by decide) rfl (q0 := 0) rfl rfl rfl rfl hl.1 (Nat.le_of_ble_eq_true rfl) dX7_statement_147 ⟨Nat.le_refl _, Nat.le_refl _⟩ (fun H locs hP hD hS => ?_)
                  generalize et23 : (f_X7_number len ec ep (t14.2 + 1) bad text (-524288) 524287 1) = t23 at hP hD ⊢
                  refine lv_istore (lv' := [(6, .int t23.1), (5, .int 1), (4, .int (f_X7_opcodeOf mn t1.1)), (3, .int t1.2.2), (1, .long t1.1), (0, .ref m0)]) hx hb dX7_statement_150 hl (by decide) rfl (fun ls hl => ?_)
                  refine lv_aload_n hx hb dX7_statement_152 rfl (lv_at hl 5 rfl) ?_
                  refine va_get (D := G.1) (ci := 10) (v := .int t23.2.2.2.2) (C := RX7) (T := TX7) (N := 21) hx hb hts in_X7 hown hK hP 0 rfl rfl 12 (by decide) (hts _ k_fl_X7_109) (fun _ h9 => h9) rfl dX7_statement_153 ?_
                  refine lv_if_ne (tgt := 165) hx hb dX7_statement_156 (by decide) (fun c_24 => ?_) (fun c_24 => ?_)
                  · skip
                    refine lv_goto (tgt := 174) hx hb dX7_statement_165 (by decide) ?_
                    refine lv_aload_n hx hb dX7_statement_174 rfl (lv_at hl 5 rfl) ?_
                    refine lv_bipush (v := 59) hx hb dX7_statement_175 (by decide) ?_
                    refine gV (As := [.int 59]) (rest := []) (wr := [(m13, .inl (G.2.1.1, 256, .inl draft)), (m14, .inl (G.2.1.2.1, 256, .inl wri)), (m17, .inl (G.2.1.2.2.1, 16, .inr (.inl mn)))]) (ws' := [(m0, .inr (10, [.int rz, .ref m1, .ref m2, .ref m3, .int hf, .int hs, .ref m6, .int len, .int ((f_X7_sign len t23.2.1 t23.2.2.1 t23.2.2.2.1 t23.2.2.2.2 text 59).1), .int ((f_X7_sign len t23.2.1 t23.2.2.1 t23.2.2.2.1 t23.2.2.2.2 text 59).2.1), .int ((f_X7_sign len t23.2.1 t23.2.2.1 t23.2.2.2.1 t23.2.2.2.2 text 59).2.2.1), .int t1.2.2, .int ((f_X7_sign len t23.2.1 t23.2.2.1 t23.2.2.2.1 t23.2.2.2.2 text 59).2.2.2), .ref m13, .ref m14, .int plc, .int sta, .ref m17, .ref m18, .ref m19, .int shm])), (m6, .inl (G.2.1.1, 600, .inl text)), (m13, .inl (G.2.1.1, 256, .inl draft)), (m14, .inl (G.2.1.2.1, 256, .inl wri)), (m17, .inl (G.2.1.2.2.1, 16, .inr (.inl mn)))]) F (c_X7_sign l G m0 m1 m2 m3 m6 m13 m14 m17 m18 m19 rz hf hs len t23.2.1 t23.2.2.1 t23.2.2.2.1 t1.2.2 t23.2.2.2.2 plc sta shm text 59 hlen (by have o0 : (0 : Int32).toInt = 0 := (by decide); have o1 : (1 : Int32).toInt = 1 := (by decide); have q0 := word_pos hlen (by omega) et1; have q1 := here_pos hlen (by omega) et14; have za2 := gI_add (x := t14.2) (y := 1) (by omega) (by omega); have q2 := number_pos hlen (by omega) et23; omega)) okV_X7_sign k_ml_X7_145 rfl rfl ⟨Nat.le_of_ble_eq_true rfl, Nat.le_of_ble_eq_true rfl⟩ hN hK hP hD hS hA [0, 1] [2, 3, 4] [3, 4, 0, 1, 2] (by decide) rfl rfl (by decide) (by decide) (by decide) rfl (q0 := 0) rfl rfl rfl rfl hl.1 (Nat.le_of_ble_eq_true rfl) dX7_statement_177 ⟨Nat.le_refl _, Nat.le_refl _⟩ (fun H locs hP hD hS => ?_)
                    generalize et25 : (f_X7_sign len t23.2.1 t23.2.2.1 t23.2.2.2.1 t23.2.2.2.2 text 59) = t25 at hP hD ⊢
                    have ef : (f_X7_statement len ec ep pos bad plc sta text draft wri mn) = (t25.1, t25.2.1, t25.2.2.1, t1.2.2, t25.2.2.2, plc, sta, draft, wri) := (by subst et25; subst et23; subst et14; subst et1; exact ((if_neg c_2).trans ((if_neg c_3).trans ((if_pos c_4).trans ((if_pos c_11).trans ((if_pos c_12).trans ((if_pos c_15).trans (if_neg c_24))))))))
                    exact gRetV F hr hlocks hK hP hD hS rfl (by rw [ef]) (Nat.le_of_ble_eq_true rfl) (Nat.le_of_ble_eq_true rfl) dX7_statement_180
                  · skip
                    refine lv_aload_n hx hb dX7_statement_159 rfl (lv_at hl 5 rfl) ?_
                    refine lv_iload hx hb dX7_statement_160 (lv_at hl 0 rfl) ?_
                    refine gV (As := [.int t23.1]) (rest := []) (wr := [(m6, .inl (G.2.1.1, 600, .inl text)), (m17, .inl (G.2.1.2.2.1, 16, .inr (.inl mn)))]) (ws' := [(m0, .inr (10, [.int rz, .ref m1, .ref m2, .ref m3, .int hf, .int hs, .ref m6, .int len, .int t23.2.1, .int t23.2.2.1, .int t23.2.2.2.1, .int t1.2.2, .int t23.2.2.2.2, .ref m13, .ref m14, .int ((f_X7_writes plc draft wri t23.1).1), .int sta, .ref m17, .ref m18, .ref m19, .int shm])), (m6, .inl (G.2.1.1, 600, .inl text)), (m13, .inl (G.2.1.1, 256, .inl ((f_X7_writes plc draft wri t23.1).2.1))), (m14, .inl (G.2.1.2.1, 256, .inl ((f_X7_writes plc draft wri t23.1).2.2))), (m17, .inl (G.2.1.2.2.1, 16, .inr (.inl mn)))]) F (c_X7_writes l G m0 m1 m2 m3 m6 m13 m14 m17 m18 m19 rz hf hs len t23.2.1 t23.2.2.1 t23.2.2.2.1 t1.2.2 t23.2.2.2.2 plc sta shm draft wri t23.1 hplc) okV_X7_writes k_ml_X7_170 rfl rfl ⟨Nat.le_of_ble_eq_true rfl, Nat.le_of_ble_eq_true rfl⟩ hN hK hP hD hS hA [0, 2, 3] [1, 4] [2, 0, 3, 4, 1] (by decide) rfl rfl (by decide) (by decide) (by decide) rfl (q0 := 0) rfl rfl rfl rfl hl.1 (Nat.le_of_ble_eq_true rfl) dX7_statement_162 ⟨Nat.le_refl _, Nat.le_refl _⟩ (fun H locs hP hD hS => ?_)
                    generalize et26 : (f_X7_writes plc draft wri t23.1) = t26 at hP hD ⊢
                    refine lv_goto (tgt := 174) hx hb dX7_statement_165 (by decide) ?_
                    refine lv_aload_n hx hb dX7_statement_174 rfl (lv_at hl 5 rfl) ?_
                    refine lv_bipush (v := 59) hx hb dX7_statement_175 (by decide) ?_
                    refine gV (As := [.int 59]) (rest := []) (wr := [(m13, .inl (G.2.1.1, 256, .inl t26.2.1)), (m14, .inl (G.2.1.2.1, 256, .inl t26.2.2)), (m17, .inl (G.2.1.2.2.1, 16, .inr (.inl mn)))]) (ws' := [(m0, .inr (10, [.int rz, .ref m1, .ref m2, .ref m3, .int hf, .int hs, .ref m6, .int len, .int ((f_X7_sign len t23.2.1 t23.2.2.1 t23.2.2.2.1 t23.2.2.2.2 text 59).1), .int ((f_X7_sign len t23.2.1 t23.2.2.1 t23.2.2.2.1 t23.2.2.2.2 text 59).2.1), .int ((f_X7_sign len t23.2.1 t23.2.2.1 t23.2.2.2.1 t23.2.2.2.2 text 59).2.2.1), .int t1.2.2, .int ((f_X7_sign len t23.2.1 t23.2.2.1 t23.2.2.2.1 t23.2.2.2.2 text 59).2.2.2), .ref m13, .ref m14, .int t26.1, .int sta, .ref m17, .ref m18, .ref m19, .int shm])), (m6, .inl (G.2.1.1, 600, .inl text)), (m13, .inl (G.2.1.1, 256, .inl t26.2.1)), (m14, .inl (G.2.1.2.1, 256, .inl t26.2.2)), (m17, .inl (G.2.1.2.2.1, 16, .inr (.inl mn)))]) F (c_X7_sign l G m0 m1 m2 m3 m6 m13 m14 m17 m18 m19 rz hf hs len t23.2.1 t23.2.2.1 t23.2.2.2.1 t1.2.2 t23.2.2.2.2 t26.1 sta shm text 59 hlen (by have o0 : (0 : Int32).toInt = 0 := (by decide); have o1 : (1 : Int32).toInt = 1 := (by decide); have q0 := word_pos hlen (by omega) et1; have q1 := here_pos hlen (by omega) et14; have za2 := gI_add (x := t14.2) (y := 1) (by omega) (by omega); have q2 := number_pos hlen (by omega) et23; omega)) okV_X7_sign k_ml_X7_145 rfl rfl ⟨Nat.le_of_ble_eq_true rfl, Nat.le_of_ble_eq_true rfl⟩ hN hK hP hD hS hA [0, 1] [2, 3, 4] [3, 4, 0, 1, 2] (by decide) rfl rfl (by decide) (by decide) (by decide) rfl (q0 := 0) rfl rfl rfl rfl hl.1 (Nat.le_of_ble_eq_true rfl) dX7_statement_177 ⟨Nat.le_refl _, Nat.le_refl _⟩ (fun H locs hP hD hS => ?_)
                    generalize et27 : (f_X7_sign len t23.2.1 t23.2.2.1 t23.2.2.2.1 t23.2.2.2.2 text 59) = t27 at hP hD ⊢
                    have ef : (f_X7_statement len ec ep pos bad plc sta text draft wri mn) = (t27.1, t27.2.1, t27.2.2.1, t1.2.2, t27.2.2.2, t26.1, sta, t26.2.1, t26.2.2) := (by subst et27; subst et26; subst et23; subst et14; subst et1; exact ((if_neg c_2).trans ((if_neg c_3).trans ((if_pos c_4).trans ((if_pos c_11).trans ((if_pos c_12).trans ((if_pos c_15).trans (if_pos c_24))))))))
                    exact gRetV F hr hlocks hK hP hD hS rfl (by rw [ef]) (Nat.le_of_ble_eq_true rfl) (Nat.le_of_ble_eq_true rfl) dX7_statement_180
          · skip
            refine lv_aload_n hx hb dX7_statement_90 rfl (lv_at hl 3 rfl) ?_
            refine lv_iconst (v := 3) hx hb dX7_statement_91 (by decide) ?_
            refine lv_iload_n hx hb dX7_statement_92 rfl (lv_at hl 1 rfl) ?_
            refine gV (As := [.int 3, .int t1.2.2]) (rest := []) (wr := [(m6, .inl (G.2.1.1, 600, .inl text)), (m13, .inl (G.2.1.1, 256, .inl draft)), (m14, .inl (G.2.1.2.1, 256, .inl wri)), (m17, .inl (G.2.1.2.2.1, 16, .inr (.inl mn)))]) (ws' := [(m0, .inr (10, [.int rz, .ref m1, .ref m2, .ref m3, .int hf, .int hs, .ref m6, .int len, .int ((f_X7_wrong ec ep bad 3 t1.2.2).1), .int ((f_X7_wrong ec ep bad 3 t1.2.2).2.1), .int t1.2.1, .int t1.2.2, .int ((f_X7_wrong ec ep bad 3 t1.2.2).2.2), .ref m13, .ref m14, .int plc, .int sta, .ref m17, .ref m18, .ref m19, .int shm])), (m6, .inl (G.2.1.1, 600, .inl text)), (m13, .inl (G.2.1.1, 256, .inl draft)), (m14, .inl (G.2.1.2.1, 256, .inl wri)), (m17, .inl (G.2.1.2.2.1, 16, .inr (.inl mn)))]) F (c_X7_wrong l G m0 m1 m2 m3 m6 m13 m14 m17 m18 m19 rz hf hs len ec ep t1.2.1 t1.2.2 bad plc sta shm 3 t1.2.2) okV_X7_wrong k_ml_X7_137 rfl rfl ⟨Nat.le_of_ble_eq_true rfl, Nat.le_of_ble_eq_true rfl⟩ hN hK hP hD hS hA [0] [1, 2, 3, 4] [4, 0, 1, 2, 3] (by decide) rfl rfl (by decide) (by decide) (by decide) rfl (q0 := 0) rfl rfl rfl rfl hl.1 (Nat.le_of_ble_eq_true rfl) dX7_statement_93 ⟨Nat.le_refl _, Nat.le_refl _⟩ (fun H locs hP hD hS => ?_)
            generalize et28 : (f_X7_wrong ec ep bad 3 t1.2.2) = t28 at hP hD ⊢
            refine lv_goto (tgt := 174) hx hb dX7_statement_96 (by decide) ?_
            refine lv_aload_n hx hb dX7_statement_174 rfl (lv_at hl 3 rfl) ?_
            refine lv_bipush (v := 59) hx hb dX7_statement_175 (by decide) ?_
            refine gV (As := [.int 59]) (rest := []) (wr := [(m13, .inl (G.2.1.1, 256, .inl draft)), (m14, .inl (G.2.1.2.1, 256, .inl wri)), (m17, .inl (G.2.1.2.2.1, 16, .inr (.inl mn)))]) (ws' := [(m0, .inr (10, [.int rz, .ref m1, .ref m2, .ref m3, .int hf, .int hs, .ref m6, .int len, .int ((f_X7_sign len t28.1 t28.2.1 t1.2.1 t28.2.2 text 59).1), .int ((f_X7_sign len t28.1 t28.2.1 t1.2.1 t28.2.2 text 59).2.1), .int ((f_X7_sign len t28.1 t28.2.1 t1.2.1 t28.2.2 text 59).2.2.1), .int t1.2.2, .int ((f_X7_sign len t28.1 t28.2.1 t1.2.1 t28.2.2 text 59).2.2.2), .ref m13, .ref m14, .int plc, .int sta, .ref m17, .ref m18, .ref m19, .int shm])), (m6, .inl (G.2.1.1, 600, .inl text)), (m13, .inl (G.2.1.1, 256, .inl draft)), (m14, .inl (G.2.1.2.1, 256, .inl wri)), (m17, .inl (G.2.1.2.2.1, 16, .inr (.inl mn)))]) F (c_X7_sign l G m0 m1 m2 m3 m6 m13 m14 m17 m18 m19 rz hf hs len t28.1 t28.2.1 t1.2.1 t1.2.2 t28.2.2 plc sta shm text 59 hlen (by have o0 : (0 : Int32).toInt = 0 := (by decide); have o1 : (1 : Int32).toInt = 1 := (by decide); have q0 := word_pos hlen (by omega) et1; omega)) okV_X7_sign k_ml_X7_145 rfl rfl ⟨Nat.le_of_ble_eq_true rfl, Nat.le_of_ble_eq_true rfl⟩ hN hK hP hD hS hA [0, 1] [2, 3, 4] [3, 4, 0, 1, 2] (by decide) rfl rfl (by decide) (by decide) (by decide) rfl (q0 := 0) rfl rfl rfl rfl hl.1 (Nat.le_of_ble_eq_true rfl) dX7_statement_177 ⟨Nat.le_refl _, Nat.le_refl _⟩ (fun H locs hP hD hS => ?_)
            generalize et29 : (f_X7_sign len t28.1 t28.2.1 t1.2.1 t28.2.2 text 59) = t29 at hP hD ⊢
            have ef : (f_X7_statement len ec ep pos bad plc sta text draft wri mn) = (t29.1, t29.2.1, t29.2.2.1, t1.2.2, t29.2.2.2, plc, sta, draft, wri) := (by subst et29; subst et28; subst et1; exact ((if_neg c_2).trans ((if_neg c_3).trans ((if_pos c_4).trans ((if_pos c_11).trans (if_neg c_12))))))
            exact gRetV F hr hlocks hK hP hD hS rfl (by rw [ef]) (Nat.le_of_ble_eq_true rfl) (Nat.le_of_ble_eq_true rfl) dX7_statement_180
        · skip
          refine lv_aload_n hx hb dX7_statement_69 rfl (lv_at hl 3 rfl) ?_
          refine lv_iconst (v := 1) hx hb dX7_statement_70 (by decide) ?_
          refine lv_iload_n hx hb dX7_statement_71 rfl (lv_at hl 1 rfl) ?_
          refine gV (As := [.int 1, .int t1.2.2]) (rest := []) (wr := [(m6, .inl (G.2.1.1, 600, .inl text)), (m13, .inl (G.2.1.1, 256, .inl draft)), (m14, .inl (G.2.1.2.1, 256, .inl wri)), (m17, .inl (G.2.1.2.2.1, 16, .inr (.inl mn)))]) (ws' := [(m0, .inr (10, [.int rz, .ref m1, .ref m2, .ref m3, .int hf, .int hs, .ref m6, .int len, .int ((f_X7_wrong ec ep bad 1 t1.2.2).1), .int ((f_X7_wrong ec ep bad 1 t1.2.2).2.1), .int t1.2.1, .int t1.2.2, .int ((f_X7_wrong ec ep bad 1 t1.2.2).2.2), .ref m13, .ref m14, .int plc, .int sta, .ref m17, .ref m18, .ref m19, .int shm])), (m6, .inl (G.2.1.1, 600, .inl text)), (m13, .inl (G.2.1.1, 256, .inl draft)), (m14, .inl (G.2.1.2.1, 256, .inl wri)), (m17, .inl (G.2.1.2.2.1, 16, .inr (.inl mn)))]) F (c_X7_wrong l G m0 m1 m2 m3 m6 m13 m14 m17 m18 m19 rz hf hs len ec ep t1.2.1 t1.2.2 bad plc sta shm 1 t1.2.2) okV_X7_wrong k_ml_X7_137 rfl rfl ⟨Nat.le_of_ble_eq_true rfl, Nat.le_of_ble_eq_true rfl⟩ hN hK hP hD hS hA [0] [1, 2, 3, 4] [4, 0, 1, 2, 3] (by decide) rfl rfl (by decide) (by decide) (by decide) rfl (q0 := 0) rfl rfl rfl rfl hl.1 (Nat.le_of_ble_eq_true rfl) dX7_statement_72 ⟨Nat.le_refl _, Nat.le_refl _⟩ (fun H locs hP hD hS => ?_)
          generalize et30 : (f_X7_wrong ec ep bad 1 t1.2.2) = t30 at hP hD ⊢
          refine lv_goto (tgt := 174) hx hb dX7_statement_75 (by decide) ?_
          refine lv_aload_n hx hb dX7_statement_174 rfl (lv_at hl 3 rfl) ?_
          refine lv_bipush (v := 59) hx hb dX7_statement_175 (by decide) ?_
          refine gV (As := [.int 59]) (rest := []) (wr := [(m13, .inl (G.2.1.1, 256, .inl draft)), (m14, .inl (G.2.1.2.1, 256, .inl wri)), (m17, .inl (G.2.1.2.2.1, 16, .inr (.inl mn)))]) (ws' := [(m0, .inr (10, [.int rz, .ref m1, .ref m2, .ref m3, .int hf, .int hs, .ref m6, .int len, .int ((f_X7_sign len t30.1 t30.2.1 t1.2.1 t30.2.2 text 59).1), .int ((f_X7_sign len t30.1 t30.2.1 t1.2.1 t30.2.2 text 59).2.1), .int ((f_X7_sign len t30.1 t30.2.1 t1.2.1 t30.2.2 text 59).2.2.1), .int t1.2.2, .int ((f_X7_sign len t30.1 t30.2.1 t1.2.1 t30.2.2 text 59).2.2.2), .ref m13, .ref m14, .int plc, .int sta, .ref m17, .ref m18, .ref m19, .int shm])), (m6, .inl (G.2.1.1, 600, .inl text)), (m13, .inl (G.2.1.1, 256, .inl draft)), (m14, .inl (G.2.1.2.1, 256, .inl wri)), (m17, .inl (G.2.1.2.2.1, 16, .inr (.inl mn)))]) F (c_X7_sign l G m0 m1 m2 m3 m6 m13 m14 m17 m18 m19 rz hf hs len t30.1 t30.2.1 t1.2.1 t1.2.2 t30.2.2 plc sta shm text 59 hlen (by have o0 : (0 : Int32).toInt = 0 := (by decide); have o1 : (1 : Int32).toInt = 1 := (by decide); have q0 := word_pos hlen (by omega) et1; omega)) okV_X7_sign k_ml_X7_145 rfl rfl ⟨Nat.le_of_ble_eq_true rfl, Nat.le_of_ble_eq_true rfl⟩ hN hK hP hD hS hA [0, 1] [2, 3, 4] [3, 4, 0, 1, 2] (by decide) rfl rfl (by decide) (by decide) (by decide) rfl (q0 := 0) rfl rfl rfl rfl hl.1 (Nat.le_of_ble_eq_true rfl) dX7_statement_177 ⟨Nat.le_refl _, Nat.le_refl _⟩ (fun H locs hP hD hS => ?_)
          generalize et31 : (f_X7_sign len t30.1 t30.2.1 t1.2.1 t30.2.2 text 59) = t31 at hP hD ⊢
          have ef : (f_X7_statement len ec ep pos bad plc sta text draft wri mn) = (t31.1, t31.2.1, t31.2.2.1, t1.2.2, t31.2.2.2, plc, sta, draft, wri) := (by subst et31; subst et30; subst et1; exact ((if_neg c_2).trans ((if_neg c_3).trans ((if_pos c_4).trans (if_neg c_11)))))
          exact gRetV F hr hlocks hK hP hD hS rfl (by rw [ef]) (Nat.le_of_ble_eq_true rfl) (Nat.le_of_ble_eq_true rfl) dX7_statement_180
    · skip
      refine lv_aload_n hx hb dX7_statement_44 rfl (lv_at hl 3 rfl) ?_
      refine lv_aload_n hx hb dX7_statement_45 rfl (lv_at hl 3 rfl) ?_
      refine gV (As := []) (rest := [.ref m0]) (wr := [(m13, .inl (G.2.1.1, 256, .inl draft)), (m14, .inl (G.2.1.2.1, 256, .inl wri)), (m17, .inl (G.2.1.2.2.1, 16, .inr (.inl mn)))]) (ws' := [(m0, .inr (10, [.int rz, .ref m1, .ref m2, .ref m3, .int hf, .int hs, .ref m6, .int len, .int ((f_X7_readLocation len ec ep t1.2.1 bad text).2.1), .int ((f_X7_readLocation len ec ep t1.2.1 bad text).2.2.1), .int ((f_X7_readLocation len ec ep t1.2.1 bad text).2.2.2.1), .int t1.2.2, .int ((f_X7_readLocation len ec ep t1.2.1 bad text).2.2.2.2), .ref m13, .ref m14, .int plc, .int sta, .ref m17, .ref m18, .ref m19, .int shm])), (m6, .inl (G.2.1.1, 600, .inl text)), (m13, .inl (G.2.1.1, 256, .inl draft)), (m14, .inl (G.2.1.2.1, 256, .inl wri)), (m17, .inl (G.2.1.2.2.1, 16, .inr (.inl mn)))]) F (c_X7_readLocation l G m0 m1 m2 m3 m6 m13 m14 m17 m18 m19 rz hf hs len ec ep t1.2.1 t1.2.2 bad plc sta shm text hlen (by have o0 : (0 : Int32).toInt = 0 := (by decide); have o1 : (1 : Int32).toInt = 1 := (by decide); have q0 := word_pos hlen (by omega) et1; omega)) okV_X7_readLocation k_ml_X7_157 rfl rfl ⟨Nat.le_of_ble_eq_true rfl, Nat.le_of_ble_eq_true rfl⟩ hN hK hP hD hS hA [0, 1] [2, 3, 4] [3, 4, 0, 1, 2] (by decide) rfl rfl (by decide) (by decide) (by decide) rfl (q0 := 0) rfl rfl rfl rfl hl.1 (Nat.le_of_ble_eq_true rfl) dX7_statement_46 ⟨Nat.le_refl _, Nat.le_refl _⟩ (fun H locs hP hD hS => ?_)
      generalize et32 : (f_X7_readLocation len ec ep t1.2.1 bad text) = t32 at hP hD ⊢
      refine va_put (D := G.1) (ci := 10) (v := .int t32.1) (ty := .int) (C := RX7) (T := TX7) (N := 21) hx hb hts in_X7 tyX7 tyX7_ok nmX7 hown hK hP hD hS 0 rfl rfl 16 (by decide) (hts _ k_fl_X7_181) (fun _ h9 => h9) rfl (by decide +kernel) rfl rfl (Nat.le_of_ble_eq_true rfl) dX7_statement_49 (fun H locs hP hD hS => ?_)
      replace hP : va_P G.1 vwCl [(m0, .inr (10, [.int rz, .ref m1, .ref m2, .ref m3, .int hf, .int hs, .ref m6, .int len, .int t32.2.1, .int t32.2.2.1, .int t32.2.2.2.1, .int t1.2.2, .int t32.2.2.2.2, .ref m13, .ref m14, .int plc, .int t32.1, .ref m17, .ref m18, .ref m19, .int shm])), (m6, .inl (G.2.1.1, 600, .inl text)), (m13, .inl (G.2.1.1, 256, .inl draft)), (m14, .inl (G.2.1.2.1, 256, .inl wri)), (m17, .inl (G.2.1.2.2.1, 16, .inr (.inl mn)))] H := hP
      replace hD : va_D A [(m0, .inr (10, [.int rz, .ref m1, .ref m2, .ref m3, .int hf, .int hs, .ref m6, .int len, .int t32.2.1, .int t32.2.2.1, .int t32.2.2.2.1, .int t1.2.2, .int t32.2.2.2.2, .ref m13, .ref m14, .int plc, .int t32.1, .ref m17, .ref m18, .ref m19, .int shm])), (m6, .inl (G.2.1.1, 600, .inl text)), (m13, .inl (G.2.1.1, 256, .inl draft)), (m14, .inl (G.2.1.2.1, 256, .inl wri)), (m17, .inl (G.2.1.2.2.1, 16, .inr (.inl mn)))] := hD
      refine lv_goto (tgt := 174) hx hb dX7_statement_52 (by decide) ?_
      refine lv_aload_n hx hb dX7_statement_174 rfl (lv_at hl 3 rfl) ?_
      refine lv_bipush (v := 59) hx hb dX7_statement_175 (by decide) ?_
      refine gV (As := [.int 59]) (rest := []) (wr := [(m13, .inl (G.2.1.1, 256, .inl draft)), (m14, .inl (G.2.1.2.1, 256, .inl wri)), (m17, .inl (G.2.1.2.2.1, 16, .inr (.inl mn)))]) (ws' := [(m0, .inr (10, [.int rz, .ref m1, .ref m2, .ref m3, .int hf, .int hs, .ref m6, .int len, .int ((f_X7_sign len t32.2.1 t32.2.2.1 t32.2.2.2.1 t32.2.2.2.2 text 59).1), .int ((f_X7_sign len t32.2.1 t32.2.2.1 t32.2.2.2.1 t32.2.2.2.2 text 59).2.1), .int ((f_X7_sign len t32.2.1 t32.2.2.1 t32.2.2.2.1 t32.2.2.2.2 text 59).2.2.1), .int t1.2.2, .int ((f_X7_sign len t32.2.1 t32.2.2.1 t32.2.2.2.1 t32.2.2.2.2 text 59).2.2.2), .ref m13, .ref m14, .int plc, .int t32.1, .ref m17, .ref m18, .ref m19, .int shm])), (m6, .inl (G.2.1.1, 600, .inl text)), (m13, .inl (G.2.1.1, 256, .inl draft)), (m14, .inl (G.2.1.2.1, 256, .inl wri)), (m17, .inl (G.2.1.2.2.1, 16, .inr (.inl mn)))]) F (c_X7_sign l G m0 m1 m2 m3 m6 m13 m14 m17 m18 m19 rz hf hs len t32.2.1 t32.2.2.1 t32.2.2.2.1 t1.2.2 t32.2.2.2.2 plc t32.1 shm text 59 hlen (by have o0 : (0 : Int32).toInt = 0 := (by decide); have o1 : (1 : Int32).toInt = 1 := (by decide); have q0 := word_pos hlen (by omega) et1; have q1 := rl_pos hlen (by omega) et32; omega)) okV_X7_sign k_ml_X7_145 rfl rfl ⟨Nat.le_of_ble_eq_true rfl, Nat.le_of_ble_eq_true rfl⟩ hN hK hP hD hS hA [0, 1] [2, 3, 4] [3, 4, 0, 1, 2] (by decide) rfl rfl (by decide) (by decide) (by decide) rfl (q0 := 0) rfl rfl rfl rfl hl.1 (Nat.le_of_ble_eq_true rfl) dX7_statement_177 ⟨Nat.le_refl _, Nat.le_refl _⟩ (fun H locs hP hD hS => ?_)
      generalize et33 : (f_X7_sign len t32.2.1 t32.2.2.1 t32.2.2.2.1 t32.2.2.2.2 text 59) = t33 at hP hD ⊢
      have ef : (f_X7_statement len ec ep pos bad plc sta text draft wri mn) = (t33.1, t33.2.1, t33.2.2.1, t1.2.2, t33.2.2.2, plc, t32.1, draft, wri) := (by subst et33; subst et32; subst et1; exact ((if_neg c_2).trans (if_pos c_3)))
      exact gRetV F hr hlocks hK hP hD hS rfl (by rw [ef]) (Nat.le_of_ble_eq_true rfl) (Nat.le_of_ble_eq_true rfl) dX7_statement_180
  · skip
    refine lv_aload_n hx hb dX7_statement_25 rfl (lv_at hl 3 rfl) ?_
    refine lv_aload_n hx hb dX7_statement_26 rfl (lv_at hl 3 rfl) ?_
    refine gV (As := []) (rest := [.ref m0]) (wr := [(m13, .inl (G.2.1.1, 256, .inl draft)), (m14, .inl (G.2.1.2.1, 256, .inl wri)), (m17, .inl (G.2.1.2.2.1, 16, .inr (.inl mn)))]) (ws' := [(m0, .inr (10, [.int rz, .ref m1, .ref m2, .ref m3, .int hf, .int hs, .ref m6, .int len, .int ((f_X7_readLocation len ec ep t1.2.1 bad text).2.1), .int ((f_X7_readLocation len ec ep t1.2.1 bad text).2.2.1), .int ((f_X7_readLocation len ec ep t1.2.1 bad text).2.2.2.1), .int t1.2.2, .int ((f_X7_readLocation len ec ep t1.2.1 bad text).2.2.2.2), .ref m13, .ref m14, .int plc, .int sta, .ref m17, .ref m18, .ref m19, .int shm])), (m6, .inl (G.2.1.1, 600, .inl text)), (m13, .inl (G.2.1.1, 256, .inl draft)), (m14, .inl (G.2.1.2.1, 256, .inl wri)), (m17, .inl (G.2.1.2.2.1, 16, .inr (.inl mn)))]) F (c_X7_readLocation l G m0 m1 m2 m3 m6 m13 m14 m17 m18 m19 rz hf hs len ec ep t1.2.1 t1.2.2 bad plc sta shm text hlen (by have o0 : (0 : Int32).toInt = 0 := (by decide); have o1 : (1 : Int32).toInt = 1 := (by decide); have q0 := word_pos hlen (by omega) et1; omega)) okV_X7_readLocation k_ml_X7_157 rfl rfl ⟨Nat.le_of_ble_eq_true rfl, Nat.le_of_ble_eq_true rfl⟩ hN hK hP hD hS hA [0, 1] [2, 3, 4] [3, 4, 0, 1, 2] (by decide) rfl rfl (by decide) (by decide) (by decide) rfl (q0 := 0) rfl rfl rfl rfl hl.1 (Nat.le_of_ble_eq_true rfl) dX7_statement_27 ⟨Nat.le_refl _, Nat.le_refl _⟩ (fun H locs hP hD hS => ?_)
    generalize et34 : (f_X7_readLocation len ec ep t1.2.1 bad text) = t34 at hP hD ⊢
    refine va_put (D := G.1) (ci := 10) (v := .int t34.1) (ty := .int) (C := RX7) (T := TX7) (N := 21) hx hb hts in_X7 tyX7 tyX7_ok nmX7 hown hK hP hD hS 0 rfl rfl 15 (by decide) (hts _ k_fl_X7_148) (fun _ h9 => h9) rfl (by decide +kernel) rfl rfl (Nat.le_of_ble_eq_true rfl) dX7_statement_30 (fun H locs hP hD hS => ?_)
    replace hP : va_P G.1 vwCl [(m0, .inr (10, [.int rz, .ref m1, .ref m2, .ref m3, .int hf, .int hs, .ref m6, .int len, .int t34.2.1, .int t34.2.2.1, .int t34.2.2.2.1, .int t1.2.2, .int t34.2.2.2.2, .ref m13, .ref m14, .int t34.1, .int sta, .ref m17, .ref m18, .ref m19, .int shm])), (m6, .inl (G.2.1.1, 600, .inl text)), (m13, .inl (G.2.1.1, 256, .inl draft)), (m14, .inl (G.2.1.2.1, 256, .inl wri)), (m17, .inl (G.2.1.2.2.1, 16, .inr (.inl mn)))] H := hP
    replace hD : va_D A [(m0, .inr (10, [.int rz, .ref m1, .ref m2, .ref m3, .int hf, .int hs, .ref m6, .int len, .int t34.2.1, .int t34.2.2.1, .int t34.2.2.2.1, .int t1.2.2, .int t34.2.2.2.2, .ref m13, .ref m14, .int t34.1, .int sta, .ref m17, .ref m18, .ref m19, .int shm])), (m6, .inl (G.2.1.1, 600, .inl text)), (m13, .inl (G.2.1.1, 256, .inl draft)), (m14, .inl (G.2.1.2.1, 256, .inl wri)), (m17, .inl (G.2.1.2.2.1, 16, .inr (.inl mn)))] := hD
    refine lv_goto (tgt := 174) hx hb dX7_statement_33 (by decide) ?_
    refine lv_aload_n hx hb dX7_statement_174 rfl (lv_at hl 3 rfl) ?_
    refine lv_bipush (v := 59) hx hb dX7_statement_175 (by decide) ?_
    refine gV (As := [.int 59]) (rest := []) (wr := [(m13, .inl (G.2.1.1, 256, .inl draft)), (m14, .inl (G.2.1.2.1, 256, .inl wri)), (m17, .inl (G.2.1.2.2.1, 16, .inr (.inl mn)))]) (ws' := [(m0, .inr (10, [.int rz, .ref m1, .ref m2, .ref m3, .int hf, .int hs, .ref m6, .int len, .int ((f_X7_sign len t34.2.1 t34.2.2.1 t34.2.2.2.1 t34.2.2.2.2 text 59).1), .int ((f_X7_sign len t34.2.1 t34.2.2.1 t34.2.2.2.1 t34.2.2.2.2 text 59).2.1), .int ((f_X7_sign len t34.2.1 t34.2.2.1 t34.2.2.2.1 t34.2.2.2.2 text 59).2.2.1), .int t1.2.2, .int ((f_X7_sign len t34.2.1 t34.2.2.1 t34.2.2.2.1 t34.2.2.2.2 text 59).2.2.2), .ref m13, .ref m14, .int t34.1, .int sta, .ref m17, .ref m18, .ref m19, .int shm])), (m6, .inl (G.2.1.1, 600, .inl text)), (m13, .inl (G.2.1.1, 256, .inl draft)), (m14, .inl (G.2.1.2.1, 256, .inl wri)), (m17, .inl (G.2.1.2.2.1, 16, .inr (.inl mn)))]) F (c_X7_sign l G m0 m1 m2 m3 m6 m13 m14 m17 m18 m19 rz hf hs len t34.2.1 t34.2.2.1 t34.2.2.2.1 t1.2.2 t34.2.2.2.2 t34.1 sta shm text 59 hlen (by have o0 : (0 : Int32).toInt = 0 := (by decide); have o1 : (1 : Int32).toInt = 1 := (by decide); have q0 := word_pos hlen (by omega) et1; have q1 := rl_pos hlen (by omega) et34; omega)) okV_X7_sign k_ml_X7_145 rfl rfl ⟨Nat.le_of_ble_eq_true rfl, Nat.le_of_ble_eq_true rfl⟩ hN hK hP hD hS hA [0, 1] [2, 3, 4] [3, 4, 0, 1, 2] (by decide) rfl rfl (by decide) (by decide) (by decide) rfl (q0 := 0) rfl rfl rfl rfl hl.1 (Nat.le_of_ble_eq_true rfl) dX7_statement_177 ⟨Nat.le_refl _, Nat.le_refl _⟩ (fun H locs hP hD hS => ?_)
    generalize et35 : (f_X7_sign len t34.2.1 t34.2.2.1 t34.2.2.2.1 t34.2.2.2.2 text 59) = t35 at hP hD ⊢
    have ef : (f_X7_statement len ec ep pos bad plc sta text draft wri mn) = (t35.1, t35.2.1, t35.2.2.1, t1.2.2, t35.2.2.2, t34.1, sta, draft, wri) := (by subst et35; subst et34; subst et1; exact (if_pos c_2))
    exact gRetV F hr hlocks hK hP hD hS rfl (by rw [ef]) (Nat.le_of_ble_eq_true rfl) (Nat.le_of_ble_eq_true rfl) dX7_statement_180
theorem okV_X7_statement : gOkV yX7_statement cX7_statement 7 none 0 := ⟨⟨k_im_X7_statement, k_se_X7_statement, k_in_X7, k_cd_X7_statement⟩, by decide, by decide, by decide +kernel⟩
