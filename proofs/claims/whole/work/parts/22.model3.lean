def f_X7_takes (w : Nat → Int32) (p0 : Int64) (p1 : Int32) : (Nat → Int32) :=
  if p1 = 0 then
    (upd (upd w 1 (f_X7_wrap p0)) 2 ((upd w 1 (f_X7_wrap p0)) 2))
  else
    if (Int32.toInt64 ((upd w 1 (f_X7_wrap p0)) 1)) = p0 then
      (upd (upd w 1 (f_X7_wrap p0)) 2 ((upd w 1 (f_X7_wrap p0)) 2))
    else
      (upd (upd w 1 (f_X7_wrap p0)) 2 1)
set_option maxRecDepth 100000 in
set_option maxHeartbeats 4000000 in
theorem c_X7_takes (l : Launch) (G : gG) (m0 : Nat) (m1 : Nat) (m2 : Nat) (m3 : Nat) (m6 : Nat) (m13 : Nat) (m14 : Nat) (m17 : Nat) (m18 : Nat) (m19 : Nat) (rz : Int32) (hf : Int32) (hs : Int32) (len : Int32) (ec : Int32) (ep : Int32) (pos : Int32) (bg : Int32) (bad : Int32) (plc : Int32) (sta : Int32) (shm : Int32) (w : Nat → Int32) (p0 : Int64) (p1 : Int32) : gM l G yX7_takes cX7_takes 4 none { frames := 1, cells := 0, slots := 0, locals := 22 } [.ref m0, .long p0, .int p1] [(m0, .inr (10, [.int rz, .ref m1, .ref m2, .ref m3, .int hf, .int hs, .ref m6, .int len, .int ec, .int ep, .int pos, .int bg, .int bad, .ref m13, .ref m14, .int plc, .int sta, .ref m17, .ref m18, .ref m19, .int shm])), (m1, .inl (G.2.1.1, 670, .inl w))] none [(m0, .inr (10, [.int rz, .ref m1, .ref m2, .ref m3, .int hf, .int hs, .ref m6, .int len, .int ec, .int ep, .int pos, .int bg, .int bad, .ref m13, .ref m14, .int plc, .int sta, .ref m17, .ref m18, .ref m19, .int shm])), (m1, .inl (G.2.1.1, 670, .inl (f_X7_takes w p0 p1)))] 0 0 := by
  refine gBegin (by decide +kernel) (Nat.le_of_ble_eq_true rfl) (fun p e s m args below meth c A F hr hlocks hname hN hK hP hD hA hS ls hl => ?_)
  obtain ⟨hx, hb, hml, hown, hts⟩ := id F
  replace hP : va_P G.1 vwCl [(m0, .inr (10, [.int rz, .ref m1, .ref m2, .ref m3, .int hf, .int hs, .ref m6, .int len, .int ec, .int ep, .int pos, .int bg, .int bad, .ref m13, .ref m14, .int plc, .int sta, .ref m17, .ref m18, .ref m19, .int shm])), (m1, .inl (G.2.1.1, 670, .inl w))] s.heap := hP
  replace hl : lv_has ls 4 [(0, .ref m0), (1, .long p0), (3, .int p1)] := hl
  refine lv_aload_n hx hb dX7_takes_0 rfl (lv_at hl 0 rfl) ?_
  refine va_get (D := G.1) (ci := 10) (v := .ref m1) (C := RX7) (T := TX7) (N := 21) hx hb hts in_X7 hown hK hP 0 rfl rfl 1 (by decide) (hts _ k_fl_X7_7) (fun _ h9 => h9) rfl dX7_takes_1 ?_
  refine lv_iconst (v := 1) hx hb dX7_takes_4 (by decide) ?_
  refine lv_lload_n hx hb dX7_takes_5 rfl (lv_at hl 1 rfl) ?_
  refine gS (As := [.long p0]) (rest := [.int 1, .ref m1]) (wr := [(m0, .inr (10, [.int rz, .ref m1, .ref m2, .ref m3, .int hf, .int hs, .ref m6, .int len, .int ec, .int ep, .int pos, .int bg, .int bad, .ref m13, .ref m14, .int plc, .int sta, .ref m17, .ref m18, .ref m19, .int shm])), (m1, .inl (G.2.1.1, 670, .inl w))]) (ws' := [(m0, .inr (10, [.int rz, .ref m1, .ref m2, .ref m3, .int hf, .int hs, .ref m6, .int len, .int ec, .int ep, .int pos, .int bg, .int bad, .ref m13, .ref m14, .int plc, .int sta, .ref m17, .ref m18, .ref m19, .int shm])), (m1, .inl (G.2.1.1, 670, .inl w))]) F (c_X7_wrap l G p0) okS_X7_wrap k_ml_X7_197 rfl rfl ⟨Nat.le_of_ble_eq_true rfl, Nat.le_of_ble_eq_true rfl⟩ hN hK hP hD hS hA [] [0, 1] [0, 1] (by decide) rfl rfl (by decide) (by decide) (by decide) rfl rfl rfl hl.1 (Nat.le_of_ble_eq_true rfl) dX7_takes_6 ⟨Nat.le_refl _, Nat.le_refl _⟩ (fun H locs hP hD hS => ?_)
  refine gIast (k := 1) hx hb hK hP hD hS 1 0 rfl rfl (by decide) (gInL (by decide)) dX7_takes_9 (fun H locs hP hD hS => ?_)
  replace hP : va_P G.1 vwCl [(m0, .inr (10, [.int rz, .ref m1, .ref m2, .ref m3, .int hf, .int hs, .ref m6, .int len, .int ec, .int ep, .int pos, .int bg, .int bad, .ref m13, .ref m14, .int plc, .int sta, .ref m17, .ref m18, .ref m19, .int shm])), (m1, .inl (G.2.1.1, 670, .inl (upd w 1 (f_X7_wrap p0))))] H := hP
  replace hD : va_D A [(m0, .inr (10, [.int rz, .ref m1, .ref m2, .ref m3, .int hf, .int hs, .ref m6, .int len, .int ec, .int ep, .int pos, .int bg, .int bad, .ref m13, .ref m14, .int plc, .int sta, .ref m17, .ref m18, .ref m19, .int shm])), (m1, .inl (G.2.1.1, 670, .inl (upd w 1 (f_X7_wrap p0))))] := hD
  refine lv_aload_n hx hb dX7_takes_10 rfl (lv_at hl 0 rfl) ?_
  refine va_get (D := G.1) (ci := 10) (v := .ref m1) (C := RX7) (T := TX7) (N := 21) hx hb hts in_X7 hown hK hP 0 rfl rfl 1 (by decide) (hts _ k_fl_X7_7) (fun _ h9 => h9) rfl dX7_takes_11 ?_
  refine lv_iconst (v := 2) hx hb dX7_takes_14 (by decide) ?_
  refine lv_iload_n hx hb dX7_takes_15 rfl (lv_at hl 2 rfl) ?_
  refine lv_if_eq (tgt := 35) hx hb dX7_takes_16 (by decide) (fun c_1 => ?_) (fun c_1 => ?_)
  · skip
    refine lv_aload_n hx hb dX7_takes_35 rfl (lv_at hl 0 rfl) ?_
    refine va_get (D := G.1) (ci := 10) (v := .ref m1) (C := RX7) (T := TX7) (N := 21) hx hb hts in_X7 hown hK hP 0 rfl rfl 1 (by decide) (hts _ k_fl_X7_7) (fun _ h9 => h9) rfl dX7_takes_36 ?_
    refine lv_iconst (v := 2) hx hb dX7_takes_39 (by decide) ?_
    refine gIald (k := 2) hx hb hK hP 1 0 rfl rfl (by decide) (gInL (by decide)) dX7_takes_40 ?_
    refine gIast (k := 2) hx hb hK hP hD hS 1 0 rfl rfl (by decide) (gInL (by decide)) dX7_takes_41 (fun H locs hP hD hS => ?_)
    replace hP : va_P G.1 vwCl [(m0, .inr (10, [.int rz, .ref m1, .ref m2, .ref m3, .int hf, .int hs, .ref m6, .int len, .int ec, .int ep, .int pos, .int bg, .int bad, .ref m13, .ref m14, .int plc, .int sta, .ref m17, .ref m18, .ref m19, .int shm])), (m1, .inl (G.2.1.1, 670, .inl (upd (upd w 1 (f_X7_wrap p0)) 2 ((upd w 1 (f_X7_wrap p0)) 2))))] H := hP
    replace hD : va_D A [(m0, .inr (10, [.int rz, .ref m1, .ref m2, .ref m3, .int hf, .int hs, .ref m6, .int len, .int ec, .int ep, .int pos, .int bg, .int bad, .ref m13, .ref m14, .int plc, .int sta, .ref m17, .ref m18, .ref m19, .int shm])), (m1, .inl (G.2.1.1, 670, .inl (upd (upd w 1 (f_X7_wrap p0)) 2 ((upd w 1 (f_X7_wrap p0)) 2))))] := hD
    have ef : (f_X7_takes w p0 p1) = (upd (upd w 1 (f_X7_wrap p0)) 2 ((upd w 1 (f_X7_wrap p0)) 2)) := (if_pos c_1)
    exact gRetV F hr hlocks hK hP hD hS rfl (by rw [ef]) (Nat.le_of_ble_eq_true rfl) (Nat.le_of_ble_eq_true rfl) dX7_takes_42
  · skip
    refine lv_aload_n hx hb dX7_takes_19 rfl (lv_at hl 0 rfl) ?_
    refine va_get (D := G.1) (ci := 10) (v := .ref m1) (C := RX7) (T := TX7) (N := 21) hx hb hts in_X7 hown hK hP 0 rfl rfl 1 (by decide) (hts _ k_fl_X7_7) (fun _ h9 => h9) rfl dX7_takes_20 ?_
    refine lv_iconst (v := 1) hx hb dX7_takes_23 (by decide) ?_
    refine gIald (k := 1) hx hb hK hP 1 0 rfl rfl (by decide) (gInL (by decide)) dX7_takes_24 ?_
    refine lv_i2l (v := (Int32.toInt64 ((upd w 1 (f_X7_wrap p0)) 1))) hx hb dX7_takes_25 rfl ?_
    refine lv_lload_n hx hb dX7_takes_26 rfl (lv_at hl 1 rfl) ?_
    refine gLc_eq (tgt := 35) hx hb dX7_takes_27 dX7_takes_28 (by decide) (fun c_2 => ?_) (fun c_2 => ?_)
    · skip
      refine lv_aload_n hx hb dX7_takes_35 rfl (lv_at hl 0 rfl) ?_
      refine va_get (D := G.1) (ci := 10) (v := .ref m1) (C := RX7) (T := TX7) (N := 21) hx hb hts in_X7 hown hK hP 0 rfl rfl 1 (by decide) (hts _ k_fl_X7_7) (fun _ h9 => h9) rfl dX7_takes_36 ?_
      refine lv_iconst (v := 2) hx hb dX7_takes_39 (by decide) ?_
      refine gIald (k := 2) hx hb hK hP 1 0 rfl rfl (by decide) (gInL (by decide)) dX7_takes_40 ?_
      refine gIast (k := 2) hx hb hK hP hD hS 1 0 rfl rfl (by decide) (gInL (by decide)) dX7_takes_41 (fun H locs hP hD hS => ?_)
      replace hP : va_P G.1 vwCl [(m0, .inr (10, [.int rz, .ref m1, .ref m2, .ref m3, .int hf, .int hs, .ref m6, .int len, .int ec, .int ep, .int pos, .int bg, .int bad, .ref m13, .ref m14, .int plc, .int sta, .ref m17, .ref m18, .ref m19, .int shm])), (m1, .inl (G.2.1.1, 670, .inl (upd (upd w 1 (f_X7_wrap p0)) 2 ((upd w 1 (f_X7_wrap p0)) 2))))] H := hP
      replace hD : va_D A [(m0, .inr (10, [.int rz, .ref m1, .ref m2, .ref m3, .int hf, .int hs, .ref m6, .int len, .int ec, .int ep, .int pos, .int bg, .int bad, .ref m13, .ref m14, .int plc, .int sta, .ref m17, .ref m18, .ref m19, .int shm])), (m1, .inl (G.2.1.1, 670, .inl (upd (upd w 1 (f_X7_wrap p0)) 2 ((upd w 1 (f_X7_wrap p0)) 2))))] := hD
      have ef : (f_X7_takes w p0 p1) = (upd (upd w 1 (f_X7_wrap p0)) 2 ((upd w 1 (f_X7_wrap p0)) 2)) := ((if_neg c_1).trans (if_pos c_2))
      exact gRetV F hr hlocks hK hP hD hS rfl (by rw [ef]) (Nat.le_of_ble_eq_true rfl) (Nat.le_of_ble_eq_true rfl) dX7_takes_42
    · skip
      refine lv_iconst (v := 1) hx hb dX7_takes_31 (by decide) ?_
      refine lv_goto (tgt := 41) hx hb dX7_takes_32 (by decide) ?_
      refine gIast (k := 2) hx hb hK hP hD hS 1 0 rfl rfl (by decide) (gInL (by decide)) dX7_takes_41 (fun H locs hP hD hS => ?_)
      replace hP : va_P G.1 vwCl [(m0, .inr (10, [.int rz, .ref m1, .ref m2, .ref m3, .int hf, .int hs, .ref m6, .int len, .int ec, .int ep, .int pos, .int bg, .int bad, .ref m13, .ref m14, .int plc, .int sta, .ref m17, .ref m18, .ref m19, .int shm])), (m1, .inl (G.2.1.1, 670, .inl (upd (upd w 1 (f_X7_wrap p0)) 2 1)))] H := hP
      replace hD : va_D A [(m0, .inr (10, [.int rz, .ref m1, .ref m2, .ref m3, .int hf, .int hs, .ref m6, .int len, .int ec, .int ep, .int pos, .int bg, .int bad, .ref m13, .ref m14, .int plc, .int sta, .ref m17, .ref m18, .ref m19, .int shm])), (m1, .inl (G.2.1.1, 670, .inl (upd (upd w 1 (f_X7_wrap p0)) 2 1)))] := hD
      have ef : (f_X7_takes w p0 p1) = (upd (upd w 1 (f_X7_wrap p0)) 2 1) := ((if_neg c_1).trans (if_neg c_2))
      exact gRetV F hr hlocks hK hP hD hS rfl (by rw [ef]) (Nat.le_of_ble_eq_true rfl) (Nat.le_of_ble_eq_true rfl) dX7_takes_42
theorem okV_X7_takes : gOkV yX7_takes cX7_takes 4 none 2 := ⟨⟨k_im_X7_takes, k_se_X7_takes, k_in_X7, k_cd_X7_takes⟩, by decide, by decide, by decide +kernel⟩

theorem RT_upd {w : Nat → Int32} {b j : Nat} {v : Int32} (h : RT w b) (hj : 12 ≤ j) : RT (upd w j v) b := by
  obtain ⟨h1, h8, h9, h11⟩ := h
  refine ⟨by rw [pu (by omega)]; exact h1, by rw [pu (by omega)]; exact h8, by rw [pu (by omega)]; exact h9, by rw [pu (by omega)]; exact h11⟩
theorem RT_waits {w ring : Nat → Int32} {c : Int32} {b : Nat} (hc : 0 ≤ c.toInt ∧ c.toInt < 32) (h : RT w (b + 33)) : ((f_X7_waitsFor w ring c).1 0).toInt = (w 0).toInt + (c.toInt - (w 0).toInt) % 32 ∧ RT (f_X7_waitsFor w ring c).1 (b + 1) := by
  have hw := wait_rng hc h.1.1
  have e := gI_clamp hw.2.2
  have q : RT (upd w 6 (w 6 + (((c - (w 0 % 32)) + 32) % 32))) (b + 33) := h
  have r := RT_passes (ring := ring) (n := (((c - (w 0 % 32)) + 32) % 32).toNatClampNeg) (b := b) (q.le (by omega))
  unfold f_X7_waitsFor
  exact ⟨by show ((f_X7_passes _ _ _).1 0).toInt = _; rw [r.1]; show (w 0).toInt + _ = _; omega, r.2⟩
theorem waits_cell {w ring : Nat → Int32} {c : Int32} {j : Nat} (hc : 0 ≤ c.toInt ∧ c.toInt < 32) (h : RT w 33) (hj : j < 14) (h0 : j ≠ 0) (h6 : j ≠ 6) (h7 : j ≠ 7) (h9 : j ≠ 9) : (f_X7_waitsFor w ring c).1 j = w j := by
  have hw := wait_rng hc h.1.1
  have q : RT (upd w 6 (w 6 + (((c - (w 0 % 32)) + 32) % 32))) 33 := h
  unfold f_X7_waitsFor
  show (f_X7_passes _ _ _).1 j = _
  rw [passes_cell (q.le (by omega)) hj h0 h7 h9, pu h6]
theorem mod32_rng {x : Int32} (h : 0 ≤ x.toInt) : 0 ≤ (x % 32).toInt ∧ (x % 32).toInt < 32 := by
  have e := gI_modL (x := x) (y := 32) (d := 32) h (by decide)
  omega
theorem ixOp {p : Int32} (h : 0 ≤ p.toInt ∧ p.toInt < 256) : (414 + p).toNatClampNeg = 414 + p.toNatClampNeg := by
  have e0 := gI_clamp h.1
  have e3 : (414 : Int32).toInt = 414 := (by decide)
  have e5 := gI_add (x := 414) (y := p) (by omega) (by omega)
  exact gClamp (by omega)
theorem RT_takes {w : Nat → Int32} {v : Int64} {f : Int32} {b : Nat} (h : RT w b) : RT (f_X7_takes w v f) b := by
  unfold f_X7_takes
  split
  · exact h
  · split
    · exact h
    · exact h
theorem takes_cell {w : Nat → Int32} {v : Int64} {f : Int32} {j : Nat} (h1 : j ≠ 1) (h2 : j ≠ 2) : f_X7_takes w v f j = w j := by
  unfold f_X7_takes
  repeat (first | (rw [pu h2]) | (rw [pu h1]) | split)
  all_goals (rw [pu h2, pu h1])

def f_X7_operandOf (p0 : Int32) : Int32 :=
  ((32 * (((p0 >>> ((4 : Int32) &&& 31)) : Int32) &&& 7)) + (((p0 >>> ((7 : Int32) &&& 31)) : Int32) &&& 31))
set_option maxRecDepth 100000 in
set_option maxHeartbeats 4000000 in
theorem c_X7_operandOf (l : Launch) (G : gG) (p0 : Int32) : gM l G yX7_operandOf cX7_operandOf 1 (some .int) { frames := 0, cells := 0, slots := 0, locals := 0 } [.int p0] [] (some (.int (f_X7_operandOf p0))) [] 0 0 := by
  refine gBegin (by decide +kernel) (Nat.le_of_ble_eq_true rfl) (fun p e s m args below meth c A F hr hlocks hname hN hK hP hD hA hS ls hl => ?_)
  obtain ⟨hx, hb, hml, hown, hts⟩ := id F
  replace hP : va_P G.1 vwCl [] s.heap := hP
  replace hl : lv_has ls 1 [(0, .int p0)] := hl
  refine lv_bipush (v := 32) hx hb dX7_operandOf_0 (by decide) ?_
  refine lv_iload_n hx hb dX7_operandOf_2 rfl (lv_at hl 0 rfl) ?_
  refine lv_iconst (v := 4) hx hb dX7_operandOf_3 (by decide) ?_
  refine lv_ishr hx hb dX7_operandOf_4 ?_
  refine lv_bipush (v := 7) hx hb dX7_operandOf_5 (by decide) ?_
  refine lv_iand hx hb dX7_operandOf_7 ?_
  refine lv_imul hx hb dX7_operandOf_8 ?_
  refine lv_iload_n hx hb dX7_operandOf_9 rfl (lv_at hl 0 rfl) ?_
  refine lv_bipush (v := 7) hx hb dX7_operandOf_10 (by decide) ?_
  refine lv_ishr hx hb dX7_operandOf_12 ?_
  refine lv_bipush (v := 31) hx hb dX7_operandOf_13 (by decide) ?_
  refine lv_iand hx hb dX7_operandOf_15 ?_
  refine lv_iadd hx hb dX7_operandOf_16 ?_
  exact gRetI F hr hlocks hK hP hD hS rfl rfl (Nat.le_of_ble_eq_true rfl) (Nat.le_of_ble_eq_true rfl) dX7_operandOf_17
theorem okS_X7_operandOf : gOkS yX7_operandOf cX7_operandOf 1 (some .int) 1 := ⟨⟨k_st_X7_operandOf, k_in_X7, k_cd_X7_operandOf⟩, by decide, by decide, by decide +kernel⟩
def f_X7_nextOf (p0 : Int32) : Int32 :=
  ((32 * (((p0 >>> ((12 : Int32) &&& 31)) : Int32) &&& 7)) + (((p0 >>> ((15 : Int32) &&& 31)) : Int32) &&& 31))
set_option maxRecDepth 100000 in
set_option maxHeartbeats 4000000 in
theorem c_X7_nextOf (l : Launch) (G : gG) (p0 : Int32) : gM l G yX7_nextOf cX7_nextOf 1 (some .int) { frames := 0, cells := 0, slots := 0, locals := 0 } [.int p0] [] (some (.int (f_X7_nextOf p0))) [] 0 0 := by
  refine gBegin (by decide +kernel) (Nat.le_of_ble_eq_true rfl) (fun p e s m args below meth c A F hr hlocks hname hN hK hP hD hA hS ls hl => ?_)
  obtain ⟨hx, hb, hml, hown, hts⟩ := id F
  replace hP : va_P G.1 vwCl [] s.heap := hP
  replace hl : lv_has ls 1 [(0, .int p0)] := hl
  refine lv_bipush (v := 32) hx hb dX7_nextOf_0 (by decide) ?_
  refine lv_iload_n hx hb dX7_nextOf_2 rfl (lv_at hl 0 rfl) ?_
  refine lv_bipush (v := 12) hx hb dX7_nextOf_3 (by decide) ?_
  refine lv_ishr hx hb dX7_nextOf_5 ?_
  refine lv_bipush (v := 7) hx hb dX7_nextOf_6 (by decide) ?_
  refine lv_iand hx hb dX7_nextOf_8 ?_
  refine lv_imul hx hb dX7_nextOf_9 ?_
  refine lv_iload_n hx hb dX7_nextOf_10 rfl (lv_at hl 0 rfl) ?_
  refine lv_bipush (v := 15) hx hb dX7_nextOf_11 (by decide) ?_
  refine lv_ishr hx hb dX7_nextOf_13 ?_
  refine lv_bipush (v := 31) hx hb dX7_nextOf_14 (by decide) ?_
  refine lv_iand hx hb dX7_nextOf_16 ?_
  refine lv_iadd hx hb dX7_nextOf_17 ?_
  exact gRetI F hr hlocks hK hP hD hS rfl rfl (Nat.le_of_ble_eq_true rfl) (Nat.le_of_ble_eq_true rfl) dX7_nextOf_18
theorem okS_X7_nextOf : gOkS yX7_nextOf cX7_nextOf 1 (some .int) 1 := ⟨⟨k_st_X7_nextOf, k_in_X7, k_cd_X7_nextOf⟩, by decide, by decide, by decide +kernel⟩
def f_X7_works (w : Nat → Int32) (p0 : Int32) (p1 : Int32) : (Nat → Int32) :=
  if p0 = 1 then
    (upd w 1 p1)
  else
    if p0 = 2 then
      (f_X7_takes w ((Int32.toInt64 (w 1)) * (Int32.toInt64 p1)) 1)
    else
      if p0 = 3 then
        (f_X7_takes w ((Int32.toInt64 (w 1)) + (Int32.toInt64 p1)) 1)
      else
        if p0 = 4 then
          (f_X7_takes w ((Int32.toInt64 (w 1)) - (Int32.toInt64 p1)) 1)
        else
          if p0 = 5 then
            (upd w 1 ((w 1) &&& p1))
          else
            if p0 = 6 then
              (upd w 1 ((w 1) ^^^ p1))
            else
              (f_X7_takes w ((Int32.toInt64 (w 1)) * (Int32.toInt64 p1)) 1)
set_option maxRecDepth 100000 in
set_option maxHeartbeats 4000000 in
theorem c_X7_works (l : Launch) (G : gG) (m0 : Nat) (m1 : Nat) (m2 : Nat) (m3 : Nat) (m6 : Nat) (m13 : Nat) (m14 : Nat) (m17 : Nat) (m18 : Nat) (m19 : Nat) (rz : Int32) (hf : Int32) (hs : Int32) (len : Int32) (ec : Int32) (ep : Int32) (pos : Int32) (bg : Int32) (bad : Int32) (plc : Int32) (sta : Int32) (shm : Int32) (w : Nat → Int32) (p0 : Int32) (p1 : Int32) : gM l G yX7_works cX7_works 4 none { frames := 2, cells := 0, slots := 0, locals := 45 } [.ref m0, .int p0, .int p1] [(m0, .inr (10, [.int rz, .ref m1, .ref m2, .ref m3, .int hf, .int hs, .ref m6, .int len, .int ec, .int ep, .int pos, .int bg, .int bad, .ref m13, .ref m14, .int plc, .int sta, .ref m17, .ref m18, .ref m19, .int shm])), (m1, .inl (G.2.1.1, 670, .inl w))] none [(m0, .inr (10, [.int rz, .ref m1, .ref m2, .ref m3, .int hf, .int hs, .ref m6, .int len, .int ec, .int ep, .int pos, .int bg, .int bad, .ref m13, .ref m14, .int plc, .int sta, .ref m17, .ref m18, .ref m19, .int shm])), (m1, .inl (G.2.1.1, 670, .inl (f_X7_works w p0 p1)))] 0 0 := by
  refine gBegin (by decide +kernel) (Nat.le_of_ble_eq_true rfl) (fun p e s m args below meth c A F hr hlocks hname hN hK hP hD hA hS ls hl => ?_)
  obtain ⟨hx, hb, hml, hown, hts⟩ := id F
  replace hP : va_P G.1 vwCl [(m0, .inr (10, [.int rz, .ref m1, .ref m2, .ref m3, .int hf, .int hs, .ref m6, .int len, .int ec, .int ep, .int pos, .int bg, .int bad, .ref m13, .ref m14, .int plc, .int sta, .ref m17, .ref m18, .ref m19, .int shm])), (m1, .inl (G.2.1.1, 670, .inl w))] s.heap := hP
  replace hl : lv_has ls 4 [(0, .ref m0), (1, .int p0), (2, .int p1)] := hl
  refine lv_aload_n hx hb dX7_works_0 rfl (lv_at hl 0 rfl) ?_
  refine va_get (D := G.1) (ci := 10) (v := .ref m1) (C := RX7) (T := TX7) (N := 21) hx hb hts in_X7 hown hK hP 0 rfl rfl 1 (by decide) (hts _ k_fl_X7_7) (fun _ h9 => h9) rfl dX7_works_1 ?_
  refine lv_iconst (v := 1) hx hb dX7_works_4 (by decide) ?_
  refine gIald (k := 1) hx hb hK hP 1 0 rfl rfl (by decide) (gInL (by decide)) dX7_works_5 ?_
  refine lv_istore_n (lv' := [(3, .int (w 1)), (0, .ref m0), (1, .int p0), (2, .int p1)]) hx hb dX7_works_6 rfl hl (by decide) rfl (fun ls hl => ?_)
  refine lv_iload_n hx hb dX7_works_7 rfl (lv_at hl 2 rfl) ?_
  rcases (Decidable.em (p0 = 1)) with c_1 | c_1
  · skip
    refine lv_tableIn (off := 40) (tgt := 48) hx hb dX7_works_8 (by rw [c_1]; decide) (by rw [c_1]; decide) (by rw [c_1]; decide) (by decide) ?_
    refine lv_aload_n hx hb dX7_works_48 rfl (lv_at hl 1 rfl) ?_
    refine va_get (D := G.1) (ci := 10) (v := .ref m1) (C := RX7) (T := TX7) (N := 21) hx hb hts in_X7 hown hK hP 0 rfl rfl 1 (by decide) (hts _ k_fl_X7_7) (fun _ h9 => h9) rfl dX7_works_49 ?_
    refine lv_iconst (v := 1) hx hb dX7_works_52 (by decide) ?_
    refine lv_iload_n hx hb dX7_works_53 rfl (lv_at hl 3 rfl) ?_
    refine gIast (k := 1) hx hb hK hP hD hS 1 0 rfl rfl (by decide) (gInL (by decide)) dX7_works_54 (fun H locs hP hD hS => ?_)
    replace hP : va_P G.1 vwCl [(m0, .inr (10, [.int rz, .ref m1, .ref m2, .ref m3, .int hf, .int hs, .ref m6, .int len, .int ec, .int ep, .int pos, .int bg, .int bad, .ref m13, .ref m14, .int plc, .int sta, .ref m17, .ref m18, .ref m19, .int shm])), (m1, .inl (G.2.1.1, 670, .inl (upd w 1 p1)))] H := hP
    replace hD : va_D A [(m0, .inr (10, [.int rz, .ref m1, .ref m2, .ref m3, .int hf, .int hs, .ref m6, .int len, .int ec, .int ep, .int pos, .int bg, .int bad, .ref m13, .ref m14, .int plc, .int sta, .ref m17, .ref m18, .ref m19, .int shm])), (m1, .inl (G.2.1.1, 670, .inl (upd w 1 p1)))] := hD
    refine lv_goto (tgt := 118) hx hb dX7_works_55 (by decide) ?_
    have ef : (f_X7_works w p0 p1) = (upd w 1 p1) := (if_pos c_1)
    exact gRetV F hr hlocks hK hP hD hS rfl (by rw [ef]) (Nat.le_of_ble_eq_true rfl) (Nat.le_of_ble_eq_true rfl) dX7_works_118
  · skip
    rcases (Decidable.em (p0 = 2)) with c_2 | c_2
    · skip
      refine lv_tableIn (off := 100) (tgt := 108) hx hb dX7_works_8 (by rw [c_2]; decide) (by rw [c_2]; decide) (by rw [c_2]; decide) (by decide) ?_
      refine lv_aload_n hx hb dX7_works_108 rfl (lv_at hl 1 rfl) ?_
      refine lv_iload_n hx hb dX7_works_109 rfl (lv_at hl 0 rfl) ?_
      refine lv_i2l (v := (Int32.toInt64 (w 1))) hx hb dX7_works_110 rfl ?_
      refine lv_iload_n hx hb dX7_works_111 rfl (lv_at hl 3 rfl) ?_
      refine lv_i2l (v := (Int32.toInt64 p1)) hx hb dX7_works_112 rfl ?_
      refine lv_lmul hx hb dX7_works_113 ?_
      refine lv_iconst (v := 1) hx hb dX7_works_114 (by decide) ?_
      refine gV (As := [.long ((Int32.toInt64 (w 1)) * (Int32.toInt64 p1)), .int 1]) (rest := []) (wr := []) (ws' := [(m0, .inr (10, [.int rz, .ref m1, .ref m2, .ref m3, .int hf, .int hs, .ref m6, .int len, .int ec, .int ep, .int pos, .int bg, .int bad, .ref m13, .ref m14, .int plc, .int sta, .ref m17, .ref m18, .ref m19, .int shm])), (m1, .inl (G.2.1.1, 670, .inl (f_X7_takes w ((Int32.toInt64 (w 1)) * (Int32.toInt64 p1)) 1)))]) F (c_X7_takes l G m0 m1 m2 m3 m6 m13 m14 m17 m18 m19 rz hf hs len ec ep pos bg bad plc sta shm w ((Int32.toInt64 (w 1)) * (Int32.toInt64 p1)) 1) okV_X7_takes k_ml_X7_267 rfl rfl ⟨Nat.le_of_ble_eq_true rfl, Nat.le_of_ble_eq_true rfl⟩ hN hK hP hD hS hA [0, 1] [] [0, 1] (by decide) rfl rfl (by decide) (by decide) (by decide) rfl (q0 := 0) rfl rfl rfl rfl hl.1 (Nat.le_of_ble_eq_true rfl) dX7_works_115 ⟨Nat.le_refl _, Nat.le_refl _⟩ (fun H locs hP hD hS => ?_)
      have ef : (f_X7_works w p0 p1) = (f_X7_takes w ((Int32.toInt64 (w 1)) * (Int32.toInt64 p1)) 1) := ((if_neg c_1).trans (if_pos c_2))
      exact gRetV F hr hlocks hK hP hD hS rfl (by rw [ef]) (Nat.le_of_ble_eq_true rfl) (Nat.le_of_ble_eq_true rfl) dX7_works_118
    · skip
      rcases (Decidable.em (p0 = 3)) with c_3 | c_3
      · skip
        refine lv_tableIn (off := 50) (tgt := 58) hx hb dX7_works_8 (by rw [c_3]; decide) (by rw [c_3]; decide) (by rw [c_3]; decide) (by decide) ?_
        refine lv_aload_n hx hb dX7_works_58 rfl (lv_at hl 1 rfl) ?_
        refine lv_iload_n hx hb dX7_works_59 rfl (lv_at hl 0 rfl) ?_
        refine lv_i2l (v := (Int32.toInt64 (w 1))) hx hb dX7_works_60 rfl ?_
        refine lv_iload_n hx hb dX7_works_61 rfl (lv_at hl 3 rfl) ?_
        refine lv_i2l (v := (Int32.toInt64 p1)) hx hb dX7_works_62 rfl ?_
        refine lv_ladd hx hb dX7_works_63 ?_
        refine lv_iconst (v := 1) hx hb dX7_works_64 (by decide) ?_
        refine gV (As := [.long ((Int32.toInt64 (w 1)) + (Int32.toInt64 p1)), .int 1]) (rest := []) (wr := []) (ws' := [(m0, .inr (10, [.int rz, .ref m1, .ref m2, .ref m3, .int hf, .int hs, .ref m6, .int len, .int ec, .int ep, .int pos, .int bg, .int bad, .ref m13, .ref m14, .int plc, .int sta, .ref m17, .ref m18, .ref m19, .int shm])), (m1, .inl (G.2.1.1, 670, .inl (f_X7_takes w ((Int32.toInt64 (w 1)) + (Int32.toInt64 p1)) 1)))]) F (c_X7_takes l G m0 m1 m2 m3 m6 m13 m14 m17 m18 m19 rz hf hs len ec ep pos bg bad plc sta shm w ((Int32.toInt64 (w 1)) + (Int32.toInt64 p1)) 1) okV_X7_takes k_ml_X7_267 rfl rfl ⟨Nat.le_of_ble_eq_true rfl, Nat.le_of_ble_eq_true rfl⟩ hN hK hP hD hS hA [0, 1] [] [0, 1] (by decide) rfl rfl (by decide) (by decide) (by decide) rfl (q0 := 0) rfl rfl rfl rfl hl.1 (Nat.le_of_ble_eq_true rfl) dX7_works_65 ⟨Nat.le_refl _, Nat.le_refl _⟩ (fun H locs hP hD hS => ?_)
        refine lv_goto (tgt := 118) hx hb dX7_works_68 (by decide) ?_
        have ef : (f_X7_works w p0 p1) = (f_X7_takes w ((Int32.toInt64 (w 1)) + (Int32.toInt64 p1)) 1) := ((if_neg c_1).trans ((if_neg c_2).trans (if_pos c_3)))
        exact gRetV F hr hlocks hK hP hD hS rfl (by rw [ef]) (Nat.le_of_ble_eq_true rfl) (Nat.le_of_ble_eq_true rfl) dX7_works_118
      · skip
        rcases (Decidable.em (p0 = 4)) with c_4 | c_4
        · skip
          refine lv_tableIn (off := 63) (tgt := 71) hx hb dX7_works_8 (by rw [c_4]; decide) (by rw [c_4]; decide) (by rw [c_4]; decide) (by decide) ?_
          refine lv_aload_n hx hb dX7_works_71 rfl (lv_at hl 1 rfl) ?_
          refine lv_iload_n hx hb dX7_works_72 rfl (lv_at hl 0 rfl) ?_
          refine lv_i2l (v := (Int32.toInt64 (w 1))) hx hb dX7_works_73 rfl ?_
          refine lv_iload_n hx hb dX7_works_74 rfl (lv_at hl 3 rfl) ?_
          refine lv_i2l (v := (Int32.toInt64 p1)) hx hb dX7_works_75 rfl ?_
          refine lv_lsub hx hb dX7_works_76 ?_
          refine lv_iconst (v := 1) hx hb dX7_works_77 (by decide) ?_
          refine gV (As := [.long ((Int32.toInt64 (w 1)) - (Int32.toInt64 p1)), .int 1]) (rest := []) (wr := []) (ws' := [(m0, .inr (10, [.int rz, .ref m1, .ref m2, .ref m3, .int hf, .int hs, .ref m6, .int len, .int ec, .int ep, .int pos, .int bg, .int bad, .ref m13, .ref m14, .int plc, .int sta, .ref m17, .ref m18, .ref m19, .int shm])), (m1, .inl (G.2.1.1, 670, .inl (f_X7_takes w ((Int32.toInt64 (w 1)) - (Int32.toInt64 p1)) 1)))]) F (c_X7_takes l G m0 m1 m2 m3 m6 m13 m14 m17 m18 m19 rz hf hs len ec ep pos bg bad plc sta shm w ((Int32.toInt64 (w 1)) - (Int32.toInt64 p1)) 1) okV_X7_takes k_ml_X7_267 rfl rfl ⟨Nat.le_of_ble_eq_true rfl, Nat.le_of_ble_eq_true rfl⟩ hN hK hP hD hS hA [0, 1] [] [0, 1] (by decide) rfl rfl (by decide) (by decide) (by decide) rfl (q0 := 0) rfl rfl rfl rfl hl.1 (Nat.le_of_ble_eq_true rfl) dX7_works_78 ⟨Nat.le_refl _, Nat.le_refl _⟩ (fun H locs hP hD hS => ?_)
          refine lv_goto (tgt := 118) hx hb dX7_works_81 (by decide) ?_
          have ef : (f_X7_works w p0 p1) = (f_X7_takes w ((Int32.toInt64 (w 1)) - (Int32.toInt64 p1)) 1) := ((if_neg c_1).trans ((if_neg c_2).trans ((if_neg c_3).trans (if_pos c_4))))
          exact gRetV F hr hlocks hK hP hD hS rfl (by rw [ef]) (Nat.le_of_ble_eq_true rfl) (Nat.le_of_ble_eq_true rfl) dX7_works_118
        · skip
          rcases (Decidable.em (p0 = 5)) with c_5 | c_5
          · skip
            refine lv_tableIn (off := 76) (tgt := 84) hx hb dX7_works_8 (by rw [c_5]; decide) (by rw [c_5]; decide) (by rw [c_5]; decide) (by decide) ?_
            refine lv_aload_n hx hb dX7_works_84 rfl (lv_at hl 1 rfl) ?_
            refine va_get (D := G.1) (ci := 10) (v := .ref m1) (C := RX7) (T := TX7) (N := 21) hx hb hts in_X7 hown hK hP 0 rfl rfl 1 (by decide) (hts _ k_fl_X7_7) (fun _ h9 => h9) rfl dX7_works_85 ?_
            refine lv_iconst (v := 1) hx hb dX7_works_88 (by decide) ?_
            refine lv_iload_n hx hb dX7_works_89 rfl (lv_at hl 0 rfl) ?_
            refine lv_iload_n hx hb dX7_works_90 rfl (lv_at hl 3 rfl) ?_
            refine lv_iand hx hb dX7_works_91 ?_
            refine gIast (k := 1) hx hb hK hP hD hS 1 0 rfl rfl (by decide) (gInL (by decide)) dX7_works_92 (fun H locs hP hD hS => ?_)
            replace hP : va_P G.1 vwCl [(m0, .inr (10, [.int rz, .ref m1, .ref m2, .ref m3, .int hf, .int hs, .ref m6, .int len, .int ec, .int ep, .int pos, .int bg, .int bad, .ref m13, .ref m14, .int plc, .int sta, .ref m17, .ref m18, .ref m19, .int shm])), (m1, .inl (G.2.1.1, 670, .inl (upd w 1 ((w 1) &&& p1))))] H := hP
            replace hD : va_D A [(m0, .inr (10, [.int rz, .ref m1, .ref m2, .ref m3, .int hf, .int hs, .ref m6, .int len, .int ec, .int ep, .int pos, .int bg, .int bad, .ref m13, .ref m14, .int plc, .int sta, .ref m17, .ref m18, .ref m19, .int shm])), (m1, .inl (G.2.1.1, 670, .inl (upd w 1 ((w 1) &&& p1))))] := hD
            refine lv_goto (tgt := 118) hx hb dX7_works_93 (by decide) ?_
            have ef : (f_X7_works w p0 p1) = (upd w 1 ((w 1) &&& p1)) := ((if_neg c_1).trans ((if_neg c_2).trans ((if_neg c_3).trans ((if_neg c_4).trans (if_pos c_5)))))
            exact gRetV F hr hlocks hK hP hD hS rfl (by rw [ef]) (Nat.le_of_ble_eq_true rfl) (Nat.le_of_ble_eq_true rfl) dX7_works_118
          · skip
            rcases (Decidable.em (p0 = 6)) with c_6 | c_6
            · skip
              refine lv_tableIn (off := 88) (tgt := 96) hx hb dX7_works_8 (by rw [c_6]; decide) (by rw [c_6]; decide) (by rw [c_6]; decide) (by decide) ?_
              refine lv_aload_n hx hb dX7_works_96 rfl (lv_at hl 1 rfl) ?_
              refine va_get (D := G.1) (ci := 10) (v := .ref m1) (C := RX7) (T := TX7) (N := 21) hx hb hts in_X7 hown hK hP 0 rfl rfl 1 (by decide) (hts _ k_fl_X7_7) (fun _ h9 => h9) rfl dX7_works_97 ?_
              refine lv_iconst (v := 1) hx hb dX7_works_100 (by decide) ?_
              refine lv_iload_n hx hb dX7_works_101 rfl (lv_at hl 0 rfl) ?_
              refine lv_iload_n hx hb dX7_works_102 rfl (lv_at hl 3 rfl) ?_
              refine lv_ixor hx hb dX7_works_103 ?_
              refine gIast (k := 1) hx hb hK hP hD hS 1 0 rfl rfl (by decide) (gInL (by decide)) dX7_works_104 (fun H locs hP hD hS => ?_)
              replace hP : va_P G.1 vwCl [(m0, .inr (10, [.int rz, .ref m1, .ref m2, .ref m3, .int hf, .int hs, .ref m6, .int len, .int ec, .int ep, .int pos, .int bg, .int bad, .ref m13, .ref m14, .int plc, .int sta, .ref m17, .ref m18, .ref m19, .int shm])), (m1, .inl (G.2.1.1, 670, .inl (upd w 1 ((w 1) ^^^ p1))))] H := hP
              replace hD : va_D A [(m0, .inr (10, [.int rz, .ref m1, .ref m2, .ref m3, .int hf, .int hs, .ref m6, .int len, .int ec, .int ep, .int pos, .int bg, .int bad, .ref m13, .ref m14, .int plc, .int sta, .ref m17, .ref m18, .ref m19, .int shm])), (m1, .inl (G.2.1.1, 670, .inl (upd w 1 ((w 1) ^^^ p1))))] := hD
              refine lv_goto (tgt := 118) hx hb dX7_works_105 (by decide) ?_
              have ef : (f_X7_works w p0 p1) = (upd w 1 ((w 1) ^^^ p1)) := ((if_neg c_1).trans ((if_neg c_2).trans ((if_neg c_3).trans ((if_neg c_4).trans ((if_neg c_5).trans (if_pos c_6))))))
              exact gRetV F hr hlocks hK hP hD hS rfl (by rw [ef]) (Nat.le_of_ble_eq_true rfl) (Nat.le_of_ble_eq_true rfl) dX7_works_118
            · skip
              have qc_1 : ¬ p0.toInt = 1 := lv_neT c_1 (by decide)
              have qc_2 : ¬ p0.toInt = 2 := lv_neT c_2 (by decide)
              have qc_3 : ¬ p0.toInt = 3 := lv_neT c_3 (by decide)
              have qc_4 : ¬ p0.toInt = 4 := lv_neT c_4 (by decide)
              have qc_5 : ¬ p0.toInt = 5 := lv_neT c_5 (by decide)
              have qc_6 : ¬ p0.toInt = 6 := lv_neT c_6 (by decide)
              refine lv_tableOut (tgt := 108) hx hb dX7_works_8 (by omega) (by decide) ?_
              refine lv_aload_n hx hb dX7_works_108 rfl (lv_at hl 1 rfl) ?_
              refine lv_iload_n hx hb dX7_works_109 rfl (lv_at hl 0 rfl) ?_
              refine lv_i2l (v := (Int32.toInt64 (w 1))) hx hb dX7_works_110 rfl ?_
              refine lv_iload_n hx hb dX7_works_111 rfl (lv_at hl 3 rfl) ?_
              refine lv_i2l (v := (Int32.toInt64 p1)) hx hb dX7_works_112 rfl ?_
              refine lv_lmul hx hb dX7_works_113 ?_
              refine lv_iconst (v := 1) hx hb dX7_works_114 (by decide) ?_
              refine gV (As := [.long ((Int32.toInt64 (w 1)) * (Int32.toInt64 p1)), .int 1]) (rest := []) (wr := []) (ws' := [(m0, .inr (10, [.int rz, .ref m1, .ref m2, .ref m3, .int hf, .int hs, .ref m6, .int len, .int ec, .int ep, .int pos, .int bg, .int bad, .ref m13, .ref m14, .int plc, .int sta, .ref m17, .ref m18, .ref m19, .int shm])), (m1, .inl (G.2.1.1, 670, .inl (f_X7_takes w ((Int32.toInt64 (w 1)) * (Int32.toInt64 p1)) 1)))]) F (c_X7_takes l G m0 m1 m2 m3 m6 m13 m14 m17 m18 m19 rz hf hs len ec ep pos bg bad plc sta shm w ((Int32.toInt64 (w 1)) * (Int32.toInt64 p1)) 1) okV_X7_takes k_ml_X7_267 rfl rfl ⟨Nat.le_of_ble_eq_true rfl, Nat.le_of_ble_eq_true rfl⟩ hN hK hP hD hS hA [0, 1] [] [0, 1] (by decide) rfl rfl (by decide) (by decide) (by decide) rfl (q0 := 0) rfl rfl rfl rfl hl.1 (Nat.le_of_ble_eq_true rfl) dX7_works_115 ⟨Nat.le_refl _, Nat.le_refl _⟩ (fun H locs hP hD hS => ?_)
              have ef : (f_X7_works w p0 p1) = (f_X7_takes w ((Int32.toInt64 (w 1)) * (Int32.toInt64 p1)) 1) := ((if_neg c_1).trans ((if_neg c_2).trans ((if_neg c_3).trans ((if_neg c_4).trans ((if_neg c_5).trans (if_neg c_6))))))
              exact gRetV F hr hlocks hK hP hD hS rfl (by rw [ef]) (Nat.le_of_ble_eq_true rfl) (Nat.le_of_ble_eq_true rfl) dX7_works_118
theorem okV_X7_works : gOkV yX7_works cX7_works 4 none 2 := ⟨⟨k_im_X7_works, k_se_X7_works, k_in_X7, k_cd_X7_works⟩, by decide, by decide, by decide +kernel⟩

theorem works_cell {w : Nat → Int32} {op v : Int32} {j : Nat} (h1 : j ≠ 1) (h2 : j ≠ 2) : f_X7_works w op v j = w j := by
  unfold f_X7_works
  repeat (first | exact takes_cell h1 h2 | exact pu h1 | split)
theorem RT_works {w : Nat → Int32} {op v : Int32} {b : Nat} (h : RT w b) : RT (f_X7_works w op v) b := by
  have e : ∀ j, j ≠ 1 → j ≠ 2 → f_X7_works w op v j = w j := fun j h1 h2 => works_cell h1 h2
  obtain ⟨h1, h8, h9, h11⟩ := h
  exact ⟨by rw [e 0 (by decide) (by decide)]; exact h1, by rw [e 8 (by decide) (by decide)]; exact h8, by rw [e 9 (by decide) (by decide)]; exact h9, by rw [e 11 (by decide) (by decide)]; exact h11⟩
theorem operand_rng (x : Int32) : 0 ≤ (f_X7_operandOf x).toInt ∧ (f_X7_operandOf x).toInt < 256 := by
  unfold f_X7_operandOf
  have a1 := gI_and7 (x >>> ((4 : Int32) &&& 31))
  have a2 := gI_and31 (x >>> ((7 : Int32) &&& 31))
  have e2 : (32 : Int32).toInt = 32 := (by decide)
  have e4 := gI_mul (x := 32) (y := (x >>> ((4 : Int32) &&& 31)) &&& 7) (by rw [e2]; omega) (by rw [e2]; omega)
  rw [e2] at e4
  have e5 := gI_add (x := 32 * ((x >>> ((4 : Int32) &&& 31)) &&& 7)) (y := (x >>> ((7 : Int32) &&& 31)) &&& 31) (by omega) (by omega)
  omega
theorem next_rng (x : Int32) : 0 ≤ (f_X7_nextOf x).toInt ∧ (f_X7_nextOf x).toInt < 256 := by
  unfold f_X7_nextOf
  have a1 := gI_and7 (x >>> ((12 : Int32) &&& 31))
  have a2 := gI_and31 (x >>> ((15 : Int32) &&& 31))
  have e2 : (32 : Int32).toInt = 32 := (by decide)
  have e4 := gI_mul (x := 32) (y := (x >>> ((12 : Int32) &&& 31)) &&& 7) (by rw [e2]; omega) (by rw [e2]; omega)
  rw [e2] at e4
  have e5 := gI_add (x := 32 * ((x >>> ((12 : Int32) &&& 31)) &&& 7)) (y := (x >>> ((15 : Int32) &&& 31)) &&& 31) (by omega) (by omega)
  omega

def f_X7_stores (w : Nat → Int32) (ring : Nat → Int32) (p0 : Int32) : (Nat → Int32) × (Nat → Int32) :=
  ((f_X7_passes (upd ((f_X7_waitsFor w ring (p0 % 32)).1) (Int32.toNatClampNeg (414 + p0)) ((((f_X7_waitsFor w ring (p0 % 32)).1) 1) &&& 1048575)) ((f_X7_waitsFor w ring (p0 % 32)).2) 1).1, (f_X7_passes (upd ((f_X7_waitsFor w ring (p0 % 32)).1) (Int32.toNatClampNeg (414 + p0)) ((((f_X7_waitsFor w ring (p0 % 32)).1) 1) &&& 1048575)) ((f_X7_waitsFor w ring (p0 % 32)).2) 1).2)
set_option maxRecDepth 100000 in
set_option maxHeartbeats 4000000 in
theorem c_X7_stores (l : Launch) (G : gG) (m0 : Nat) (m1 : Nat) (m2 : Nat) (m3 : Nat) (m6 : Nat) (m13 : Nat) (m14 : Nat) (m17 : Nat) (m18 : Nat) (m19 : Nat) (rz : Int32) (hf : Int32) (hs : Int32) (len : Int32) (ec : Int32) (ep : Int32) (pos : Int32) (bg : Int32) (bad : Int32) (plc : Int32) (sta : Int32) (shm : Int32) (w : Nat → Int32) (ring : Nat → Int32) (p0 : Int32) (hop : 0 ≤ p0.toInt ∧ p0.toInt < 256) (hT : RT w 36) : gM l G yX7_stores cX7_stores 2 none { frames := 6, cells := 0, slots := 0, locals := 129 } [.ref m0, .int p0] [(m0, .inr (10, [.int rz, .ref m1, .ref m2, .ref m3, .int hf, .int hs, .ref m6, .int len, .int ec, .int ep, .int pos, .int bg, .int bad, .ref m13, .ref m14, .int plc, .int sta, .ref m17, .ref m18, .ref m19, .int shm])), (m1, .inl (G.2.1.1, 670, .inl w)), (m18, .inl (G.2.1.1, 640, .inl ring))] none [(m0, .inr (10, [.int rz, .ref m1, .ref m2, .ref m3, .int hf, .int hs, .ref m6, .int len, .int ec, .int ep, .int pos, .int bg, .int bad, .ref m13, .ref m14, .int plc, .int sta, .ref m17, .ref m18, .ref m19, .int shm])), (m1, .inl (G.2.1.1, 670, .inl ((f_X7_stores w ring p0).1))), (m18, .inl (G.2.1.1, 640, .inl ((f_X7_stores w ring p0).2)))] 0 0 := by
  refine gBegin (by decide +kernel) (Nat.le_of_ble_eq_true rfl) (fun p e s m args below meth c A F hr hlocks hname hN hK hP hD hA hS ls hl => ?_)
  obtain ⟨hx, hb, hml, hown, hts⟩ := id F
  replace hP : va_P G.1 vwCl [(m0, .inr (10, [.int rz, .ref m1, .ref m2, .ref m3, .int hf, .int hs, .ref m6, .int len, .int ec, .int ep, .int pos, .int bg, .int bad, .ref m13, .ref m14, .int plc, .int sta, .ref m17, .ref m18, .ref m19, .int shm])), (m1, .inl (G.2.1.1, 670, .inl w)), (m18, .inl (G.2.1.1, 640, .inl ring))] s.heap := hP
  replace hl : lv_has ls 2 [(0, .ref m0), (1, .int p0)] := hl
  refine lv_aload_n hx hb dX7_stores_0 rfl (lv_at hl 0 rfl) ?_
  refine lv_iload_n hx hb dX7_stores_1 rfl (lv_at hl 1 rfl) ?_
  refine lv_bipush (v := 32) hx hb dX7_stores_2 (by decide) ?_
  refine gIrem hx hb dX7_stores_4 (by decide) ?_
  refine gV (As := [.int (p0 % 32)]) (rest := []) (wr := []) (ws' := [(m0, .inr (10, [.int rz, .ref m1, .ref m2, .ref m3, .int hf, .int hs, .ref m6, .int len, .int ec, .int ep, .int pos, .int bg, .int bad, .ref m13, .ref m14, .int plc, .int sta, .ref m17, .ref m18, .ref m19, .int shm])), (m1, .inl (G.2.1.1, 670, .inl ((f_X7_waitsFor w ring (p0 % 32)).1))), (m18, .inl (G.2.1.1, 640, .inl ((f_X7_waitsFor w ring (p0 % 32)).2)))]) F (c_X7_waitsFor l G m0 m1 m2 m3 m6 m13 m14 m17 m18 m19 rz hf hs len ec ep pos bg bad plc sta shm w ring (p0 % 32) (mod32_rng hop.1) (hT.le (by omega))) okV_X7_waitsFor k_ml_X7_271 rfl rfl ⟨Nat.le_of_ble_eq_true rfl, Nat.le_of_ble_eq_true rfl⟩ hN hK hP hD hS hA [0, 1, 2] [] [0, 1, 2] (by decide) rfl rfl (by decide) (by decide) (by decide) rfl (q0 := 0) rfl rfl rfl rfl hl.1 (Nat.le_of_ble_eq_true rfl) dX7_stores_5 ⟨Nat.le_refl _, Nat.le_refl _⟩ (fun H locs hP hD hS => ?_)
  refine lv_aload_n hx hb dX7_stores_8 rfl (lv_at hl 0 rfl) ?_
  refine va_get (D := G.1) (ci := 10) (v := .ref m1) (C := RX7) (T := TX7) (N := 21) hx hb hts in_X7 hown hK hP 0 rfl rfl 1 (by decide) (hts _ k_fl_X7_7) (fun _ h9 => h9) rfl dX7_stores_9 ?_
  refine lv_sipush (v := 414) hx hb dX7_stores_12 (by decide) ?_
  refine lv_iload_n hx hb dX7_stores_15 rfl (lv_at hl 1 rfl) ?_
  refine lv_iadd hx hb dX7_stores_16 ?_
  refine lv_aload_n hx hb dX7_stores_17 rfl (lv_at hl 0 rfl) ?_
  refine va_get (D := G.1) (ci := 10) (v := .ref m1) (C := RX7) (T := TX7) (N := 21) hx hb hts in_X7 hown hK hP 0 rfl rfl 1 (by decide) (hts _ k_fl_X7_7) (fun _ h9 => h9) rfl dX7_stores_18 ?_
  refine lv_iconst (v := 1) hx hb dX7_stores_21 (by decide) ?_
  refine gIald (k := 1) hx hb hK hP 1 0 rfl rfl (by decide) (gInL (by decide)) dX7_stores_22 ?_
  refine lv_ldc (v := 1048575) hx hb hown (hts _ k_co_X7_94) dX7_stores_23 ?_
  refine lv_iand hx hb dX7_stores_25 ?_
  refine va_iast hx hb hK hP hD hS 1 0 rfl rfl (by have z0 : (414 : Int32).toInt = 414 := (by decide); (try have z2 := gI_add (x := 414) (y := p0) (by omega) (by omega)); (try rw [vp_in_iff]); omega) dX7_stores_26 (fun H locs hP hD hS => ?_)
  replace hP : va_P G.1 vwCl [(m0, .inr (10, [.int rz, .ref m1, .ref m2, .ref m3, .int hf, .int hs, .ref m6, .int len, .int ec, .int ep, .int pos, .int bg, .int bad, .ref m13, .ref m14, .int plc, .int sta, .ref m17, .ref m18, .ref m19, .int shm])), (m1, .inl (G.2.1.1, 670, .inl (upd ((f_X7_waitsFor w ring (p0 % 32)).1) (Int32.toNatClampNeg (414 + p0)) ((((f_X7_waitsFor w ring (p0 % 32)).1) 1) &&& 1048575)))), (m18, .inl (G.2.1.1, 640, .inl ((f_X7_waitsFor w ring (p0 % 32)).2)))] H := hP
  replace hD : va_D A [(m0, .inr (10, [.int rz, .ref m1, .ref m2, .ref m3, .int hf, .int hs, .ref m6, .int len, .int ec, .int ep, .int pos, .int bg, .int bad, .ref m13, .ref m14, .int plc, .int sta, .ref m17, .ref m18, .ref m19, .int shm])), (m1, .inl (G.2.1.1, 670, .inl (upd ((f_X7_waitsFor w ring (p0 % 32)).1) (Int32.toNatClampNeg (414 + p0)) ((((f_X7_waitsFor w ring (p0 % 32)).1) 1) &&& 1048575)))), (m18, .inl (G.2.1.1, 640, .inl ((f_X7_waitsFor w ring (p0 % 32)).2)))] := hD
  refine lv_aload_n hx hb dX7_stores_27 rfl (lv_at hl 0 rfl) ?_
  refine lv_iconst (v := 1) hx hb dX7_stores_28 (by decide) ?_
  refine gV (As := [.int 1]) (rest := []) (wr := []) (ws' := [(m0, .inr (10, [.int rz, .ref m1, .ref m2, .ref m3, .int hf, .int hs, .ref m6, .int len, .int ec, .int ep, .int pos, .int bg, .int bad, .ref m13, .ref m14, .int plc, .int sta, .ref m17, .ref m18, .ref m19, .int shm])), (m1, .inl (G.2.1.1, 670, .inl ((f_X7_passes (upd ((f_X7_waitsFor w ring (p0 % 32)).1) (Int32.toNatClampNeg (414 + p0)) ((((f_X7_waitsFor w ring (p0 % 32)).1) 1) &&& 1048575)) ((f_X7_waitsFor w ring (p0 % 32)).2) 1).1))), (m18, .inl (G.2.1.1, 640, .inl ((f_X7_passes (upd ((f_X7_waitsFor w ring (p0 % 32)).1) (Int32.toNatClampNeg (414 + p0)) ((((f_X7_waitsFor w ring (p0 % 32)).1) 1) &&& 1048575)) ((f_X7_waitsFor w ring (p0 % 32)).2) 1).2)))]) F (c_X7_passes l G m0 m1 m2 m3 m6 m13 m14 m17 m18 m19 rz hf hs len ec ep pos bg bad plc sta shm (upd ((f_X7_waitsFor w ring (p0 % 32)).1) (Int32.toNatClampNeg (414 + p0)) ((((f_X7_waitsFor w ring (p0 % 32)).1) 1) &&& 1048575)) ((f_X7_waitsFor w ring (p0 % 32)).2) 1 (RT_upd (RT_waits (ring := ring) (b := 1) (mod32_rng hop.1) (hT.le (by omega))).2 (by first | (rw [ixOp hop]; omega)))) okV_X7_passes k_ml_X7_264 rfl rfl ⟨Nat.le_of_ble_eq_true rfl, Nat.le_of_ble_eq_true rfl⟩ hN hK hP hD hS hA [0, 1, 2] [] [0, 1, 2] (by decide) rfl rfl (by decide) (by decide) (by decide) rfl (q0 := 0) rfl rfl rfl rfl hl.1 (Nat.le_of_ble_eq_true rfl) dX7_stores_29 ⟨Nat.le_refl _, Nat.le_refl _⟩ (fun H locs hP hD hS => ?_)
  exact gRetV F hr hlocks hK hP hD hS rfl rfl (Nat.le_of_ble_eq_true rfl) (Nat.le_of_ble_eq_true rfl) dX7_stores_32
theorem okV_X7_stores : gOkV yX7_stores cX7_stores 2 none 1 := ⟨⟨k_im_X7_stores, k_se_X7_stores, k_in_X7, k_cd_X7_stores⟩, by decide, by decide, by decide +kernel⟩
def f_X7_countsDown (w : Nat → Int32) (ring : Nat → Int32) (p0 : Int32) : (Nat → Int32) × (Nat → Int32) :=
  ((f_X7_passes (upd ((f_X7_passes (upd ((f_X7_waitsFor w ring (p0 % 32)).1) 1 (f_X7_wrap ((Int32.toInt64 (f_X7_wrap (Int32.toInt64 (((f_X7_waitsFor w ring (p0 % 32)).1) (Int32.toNatClampNeg (414 + p0)))))) - 1))) ((f_X7_waitsFor w ring (p0 % 32)).2) 32).1) (Int32.toNatClampNeg (414 + p0)) ((((f_X7_passes (upd ((f_X7_waitsFor w ring (p0 % 32)).1) 1 (f_X7_wrap ((Int32.toInt64 (f_X7_wrap (Int32.toInt64 (((f_X7_waitsFor w ring (p0 % 32)).1) (Int32.toNatClampNeg (414 + p0)))))) - 1))) ((f_X7_waitsFor w ring (p0 % 32)).2) 32).1) 1) &&& 1048575)) ((f_X7_passes (upd ((f_X7_waitsFor w ring (p0 % 32)).1) 1 (f_X7_wrap ((Int32.toInt64 (f_X7_wrap (Int32.toInt64 (((f_X7_waitsFor w ring (p0 % 32)).1) (Int32.toNatClampNeg (414 + p0)))))) - 1))) ((f_X7_waitsFor w ring (p0 % 32)).2) 32).2) 1).1, (f_X7_passes (upd ((f_X7_passes (upd ((f_X7_waitsFor w ring (p0 % 32)).1) 1 (f_X7_wrap ((Int32.toInt64 (f_X7_wrap (Int32.toInt64 (((f_X7_waitsFor w ring (p0 % 32)).1) (Int32.toNatClampNeg (414 + p0)))))) - 1))) ((f_X7_waitsFor w ring (p0 % 32)).2) 32).1) (Int32.toNatClampNeg (414 + p0)) ((((f_X7_passes (upd ((f_X7_waitsFor w ring (p0 % 32)).1) 1 (f_X7_wrap ((Int32.toInt64 (f_X7_wrap (Int32.toInt64 (((f_X7_waitsFor w ring (p0 % 32)).1) (Int32.toNatClampNeg (414 + p0)))))) - 1))) ((f_X7_waitsFor w ring (p0 % 32)).2) 32).1) 1) &&& 1048575)) ((f_X7_passes (upd ((f_X7_waitsFor w ring (p0 % 32)).1) 1 (f_X7_wrap ((Int32.toInt64 (f_X7_wrap (Int32.toInt64 (((f_X7_waitsFor w ring (p0 % 32)).1) (Int32.toNatClampNeg (414 + p0)))))) - 1))) ((f_X7_waitsFor w ring (p0 % 32)).2) 32).2) 1).2)
set_option maxRecDepth 100000 in
set_option maxHeartbeats 4000000 in
theorem c_X7_countsDown (l : Launch) (G : gG) (m0 : Nat) (m1 : Nat) (m2 : Nat) (m3 : Nat) (m6 : Nat) (m13 : Nat) (m14 : Nat) (m17 : Nat) (m18 : Nat) (m19 : Nat) (rz : Int32) (hf : Int32) (hs : Int32) (len : Int32) (ec : Int32) (ep : Int32) (pos : Int32) (bg : Int32) (bad : Int32) (plc : Int32) (sta : Int32) (shm : Int32) (w : Nat → Int32) (ring : Nat → Int32) (p0 : Int32) (hop : 0 ≤ p0.toInt ∧ p0.toInt < 256) (hT : RT w 68) : gM l G yX7_countsDown cX7_countsDown 2 none { frames := 6, cells := 0, slots := 0, locals := 129 } [.ref m0, .int p0] [(m0, .inr (10, [.int rz, .ref m1, .ref m2, .ref m3, .int hf, .int hs, .ref m6, .int len, .int ec, .int ep, .int pos, .int bg, .int bad, .ref m13, .ref m14, .int plc, .int sta, .ref m17, .ref m18, .ref m19, .int shm])), (m1, .inl (G.2.1.1, 670, .inl w)), (m18, .inl (G.2.1.1, 640, .inl ring))] none [(m0, .inr (10, [.int rz, .ref m1, .ref m2, .ref m3, .int hf, .int hs, .ref m6, .int len, .int ec, .int ep, .int pos, .int bg, .int bad, .ref m13, .ref m14, .int plc, .int sta, .ref m17, .ref m18, .ref m19, .int shm])), (m1, .inl (G.2.1.1, 670, .inl ((f_X7_countsDown w ring p0).1))), (m18, .inl (G.2.1.1, 640, .inl ((f_X7_countsDown w ring p0).2)))] 0 0 := by
  refine gBegin (by decide +kernel) (Nat.le_of_ble_eq_true rfl) (fun p e s m args below meth c A F hr hlocks hname hN hK hP hD hA hS ls hl => ?_)
  obtain ⟨hx, hb, hml, hown, hts⟩ := id F
  replace hP : va_P G.1 vwCl [(m0, .inr (10, [.int rz, .ref m1, .ref m2, .ref m3, .int hf, .int hs, .ref m6, .int len, .int ec, .int ep, .int pos, .int bg, .int bad, .ref m13, .ref m14, .int plc, .int sta, .ref m17, .ref m18, .ref m19, .int shm])), (m1, .inl (G.2.1.1, 670, .inl w)), (m18, .inl (G.2.1.1, 640, .inl ring))] s.heap := hP
  replace hl : lv_has ls 2 [(0, .ref m0), (1, .int p0)] := hl
  refine lv_aload_n hx hb dX7_countsDown_0 rfl (lv_at hl 0 rfl) ?_
  refine lv_iload_n hx hb dX7_countsDown_1 rfl (lv_at hl 1 rfl) ?_
  refine lv_bipush (v := 32) hx hb dX7_countsDown_2 (by decide) ?_
  refine gIrem hx hb dX7_countsDown_4 (by decide) ?_
  refine gV (As := [.int (p0 % 32)]) (rest := []) (wr := []) (ws' := [(m0, .inr (10, [.int rz, .ref m1, .ref m2, .ref m3, .int hf, .int hs, .ref m6, .int len, .int ec, .int ep, .int pos, .int bg, .int bad, .ref m13, .ref m14, .int plc, .int sta, .ref m17, .ref m18, .ref m19, .int shm])), (m1, .inl (G.2.1.1, 670, .inl ((f_X7_waitsFor w ring (p0 % 32)).1))), (m18, .inl (G.2.1.1, 640, .inl ((f_X7_waitsFor w ring (p0 % 32)).2)))]) F (c_X7_waitsFor l G m0 m1 m2 m3 m6 m13 m14 m17 m18 m19 rz hf hs len ec ep pos bg bad plc sta shm w ring (p0 % 32) (mod32_rng hop.1) (hT.le (by omega))) okV_X7_waitsFor k_ml_X7_271 rfl rfl ⟨Nat.le_of_ble_eq_true rfl, Nat.le_of_ble_eq_true rfl⟩ hN hK hP hD hS hA [0, 1, 2] [] [0, 1, 2] (by decide) rfl rfl (by decide) (by decide) (by decide) rfl (q0 := 0) rfl rfl rfl rfl hl.1 (Nat.le_of_ble_eq_true rfl) dX7_countsDown_5 ⟨Nat.le_refl _, Nat.le_refl _⟩ (fun H locs hP hD hS => ?_)
  refine lv_aload_n hx hb dX7_countsDown_8 rfl (lv_at hl 0 rfl) ?_
  refine va_get (D := G.1) (ci := 10) (v := .ref m1) (C := RX7) (T := TX7) (N := 21) hx hb hts in_X7 hown hK hP 0 rfl rfl 1 (by decide) (hts _ k_fl_X7_7) (fun _ h9 => h9) rfl dX7_countsDown_9 ?_
  refine lv_iconst (v := 1) hx hb dX7_countsDown_12 (by decide) ?_
  refine lv_aload_n hx hb dX7_countsDown_13 rfl (lv_at hl 0 rfl) ?_
  refine va_get (D := G.1) (ci := 10) (v := .ref m1) (C := RX7) (T := TX7) (N := 21) hx hb hts in_X7 hown hK hP 0 rfl rfl 1 (by decide) (hts _ k_fl_X7_7) (fun _ h9 => h9) rfl dX7_countsDown_14 ?_
  refine lv_sipush (v := 414) hx hb dX7_countsDown_17 (by decide) ?_
  refine lv_iload_n hx hb dX7_countsDown_20 rfl (lv_at hl 1 rfl) ?_
  refine lv_iadd hx hb dX7_countsDown_21 ?_
  refine va_iald hx hb hK hP 1 0 rfl rfl (by have z0 : (414 : Int32).toInt = 414 := (by decide); (try have z2 := gI_add (x := 414) (y := p0) (by omega) (by omega)); (try rw [vp_in_iff]); omega) dX7_countsDown_22 ?_
  refine lv_i2l (v := (Int32.toInt64 (((f_X7_waitsFor w ring (p0 % 32)).1) (Int32.toNatClampNeg (414 + p0))))) hx hb dX7_countsDown_23 rfl ?_
  refine gS (As := [.long (Int32.toInt64 (((f_X7_waitsFor w ring (p0 % 32)).1) (Int32.toNatClampNeg (414 + p0))))]) (rest := [.int 1, .ref m1]) (wr := [(m0, .inr (10, [.int rz, .ref m1, .ref m2, .ref m3, .int hf, .int hs, .ref m6, .int len, .int ec, .int ep, .int pos, .int bg, .int bad, .ref m13, .ref m14, .int plc, .int sta, .ref m17, .ref m18, .ref m19, .int shm])), (m1, .inl (G.2.1.1, 670, .inl ((f_X7_waitsFor w ring (p0 % 32)).1))), (m18, .inl (G.2.1.1, 640, .inl ((f_X7_waitsFor w ring (p0 % 32)).2)))]) (ws' := [(m0, .inr (10, [.int rz, .ref m1, .ref m2, .ref m3, .int hf, .int hs, .ref m6, .int len, .int ec, .int ep, .int pos, .int bg, .int bad, .ref m13, .ref m14, .int plc, .int sta, .ref m17, .ref m18, .ref m19, .int shm])), (m1, .inl (G.2.1.1, 670, .inl ((f_X7_waitsFor w ring (p0 % 32)).1))), (m18, .inl (G.2.1.1, 640, .inl ((f_X7_waitsFor w ring (p0 % 32)).2)))]) F (c_X7_wrap l G (Int32.toInt64 (((f_X7_waitsFor w ring (p0 % 32)).1) (Int32.toNatClampNeg (414 + p0))))) okS_X7_wrap k_ml_X7_197 rfl rfl ⟨Nat.le_of_ble_eq_true rfl, Nat.le_of_ble_eq_true rfl⟩ hN hK hP hD hS hA [] [0, 1, 2] [0, 1, 2] (by decide) rfl rfl (by decide) (by decide) (by decide) rfl rfl rfl hl.1 (Nat.le_of_ble_eq_true rfl) dX7_countsDown_24 ⟨Nat.le_refl _, Nat.le_refl _⟩ (fun H locs hP hD hS => ?_)
  refine lv_i2l (v := (Int32.toInt64 (f_X7_wrap (Int32.toInt64 (((f_X7_waitsFor w ring (p0 % 32)).1) (Int32.toNatClampNeg (414 + p0))))))) hx hb dX7_countsDown_27 rfl ?_
  refine lv_lconst (v := 1) hx hb dX7_countsDown_28 (by decide) ?_
  refine lv_lsub hx hb dX7_countsDown_29 ?_
  refine gS (As := [.long ((Int32.toInt64 (f_X7_wrap (Int32.toInt64 (((f_X7_waitsFor w ring (p0 % 32)).1) (Int32.toNatClampNeg (414 + p0)))))) - 1)]) (rest := [.int 1, .ref m1]) (wr := [(m0, .inr (10, [.int rz, .ref m1, .ref m2, .ref m3, .int hf, .int hs, .ref m6, .int len, .int ec, .int ep, .int pos, .int bg, .int bad, .ref m13, .ref m14, .int plc, .int sta, .ref m17, .ref m18, .ref m19, .int shm])), (m1, .inl (G.2.1.1, 670, .inl ((f_X7_waitsFor w ring (p0 % 32)).1))), (m18, .inl (G.2.1.1, 640, .inl ((f_X7_waitsFor w ring (p0 % 32)).2)))]) (ws' := [(m0, .inr (10, [.int rz, .ref m1, .ref m2, .ref m3, .int hf, .int hs, .ref m6, .int len, .int ec, .int ep, .int pos, .int bg, .int bad, .ref m13, .ref m14, .int plc, .int sta, .ref m17, .ref m18, .ref m19, .int shm])), (m1, .inl (G.2.1.1, 670, .inl ((f_X7_waitsFor w ring (p0 % 32)).1))), (m18, .inl (G.2.1.1, 640, .inl ((f_X7_waitsFor w ring (p0 % 32)).2)))]) F (c_X7_wrap l G ((Int32.toInt64 (f_X7_wrap (Int32.toInt64 (((f_X7_waitsFor w ring (p0 % 32)).1) (Int32.toNatClampNeg (414 + p0)))))) - 1)) okS_X7_wrap k_ml_X7_197 rfl rfl ⟨Nat.le_of_ble_eq_true rfl, Nat.le_of_ble_eq_true rfl⟩ hN hK hP hD hS hA [] [0, 1, 2] [0, 1, 2] (by decide) rfl rfl (by decide) (by decide) (by decide) rfl rfl rfl hl.1 (Nat.le_of_ble_eq_true rfl) dX7_countsDown_30 ⟨Nat.le_refl _, Nat.le_refl _⟩ (fun H locs hP hD hS => ?_)
  refine gIast (k := 1) hx hb hK hP hD hS 1 0 rfl rfl (by decide) (gInL (by decide)) dX7_countsDown_33 (fun H locs hP hD hS => ?_)
  replace hP : va_P G.1 vwCl [(m0, .inr (10, [.int rz, .ref m1, .ref m2, .ref m3, .int hf, .int hs, .ref m6, .int len, .int ec, .int ep, .int pos, .int bg, .int bad, .ref m13, .ref m14, .int plc, .int sta, .ref m17, .ref m18, .ref m19, .int shm])), (m1, .inl (G.2.1.1, 670, .inl (upd ((f_X7_waitsFor w ring (p0 % 32)).1) 1 (f_X7_wrap ((Int32.toInt64 (f_X7_wrap (Int32.toInt64 (((f_X7_waitsFor w ring (p0 % 32)).1) (Int32.toNatClampNeg (414 + p0)))))) - 1))))), (m18, .inl (G.2.1.1, 640, .inl ((f_X7_waitsFor w ring (p0 % 32)).2)))] H := hP
  replace hD : va_D A [(m0, .inr (10, [.int rz, .ref m1, .ref m2, .ref m3, .int hf, .int hs, .ref m6, .int len, .int ec, .int ep, .int pos, .int bg, .int bad, .ref m13, .ref m14, .int plc, .int sta, .ref m17, .ref m18, .ref m19, .int shm])), (m1, .inl (G.2.1.1, 670, .inl (upd ((f_X7_waitsFor w ring (p0 % 32)).1) 1 (f_X7_wrap ((Int32.toInt64 (f_X7_wrap (Int32.toInt64 (((f_X7_waitsFor w ring (p0 % 32)).1) (Int32.toNatClampNeg (414 + p0)))))) - 1))))), (m18, .inl (G.2.1.1, 640, .inl ((f_X7_waitsFor w ring (p0 % 32)).2)))] := hD
  refine lv_aload_n hx hb dX7_countsDown_34 rfl (lv_at hl 0 rfl) ?_
  refine lv_bipush (v := 32) hx hb dX7_countsDown_35 (by decide) ?_
  refine gV (As := [.int 32]) (rest := []) (wr := []) (ws' := [(m0, .inr (10, [.int rz, .ref m1, .ref m2, .ref m3, .int hf, .int hs, .ref m6, .int len, .int ec, .int ep, .int pos, .int bg, .int bad, .ref m13, .ref m14, .int plc, .int sta, .ref m17, .ref m18, .ref m19, .int shm])), (m1, .inl (G.2.1.1, 670, .inl ((f_X7_passes (upd ((f_X7_waitsFor w ring (p0 % 32)).1) 1 (f_X7_wrap ((Int32.toInt64 (f_X7_wrap (Int32.toInt64 (((f_X7_waitsFor w ring (p0 % 32)).1) (Int32.toNatClampNeg (414 + p0)))))) - 1))) ((f_X7_waitsFor w ring (p0 % 32)).2) 32).1))), (m18, .inl (G.2.1.1, 640, .inl ((f_X7_passes (upd ((f_X7_waitsFor w ring (p0 % 32)).1) 1 (f_X7_wrap ((Int32.toInt64 (f_X7_wrap (Int32.toInt64 (((f_X7_waitsFor w ring (p0 % 32)).1) (Int32.toNatClampNeg (414 + p0)))))) - 1))) ((f_X7_waitsFor w ring (p0 % 32)).2) 32).2)))]) F (c_X7_passes l G m0 m1 m2 m3 m6 m13 m14 m17 m18 m19 rz hf hs len ec ep pos bg bad plc sta shm (upd ((f_X7_waitsFor w ring (p0 % 32)).1) 1 (f_X7_wrap ((Int32.toInt64 (f_X7_wrap (Int32.toInt64 (((f_X7_waitsFor w ring (p0 % 32)).1) (Int32.toNatClampNeg (414 + p0)))))) - 1))) ((f_X7_waitsFor w ring (p0 % 32)).2) 32 (show RT (upd ((f_X7_waitsFor w ring (p0 % 32)).1) 1 (f_X7_wrap ((Int32.toInt64 (f_X7_wrap (Int32.toInt64 (((f_X7_waitsFor w ring (p0 % 32)).1) (Int32.toNatClampNeg (414 + p0)))))) - 1))) 33 from (RT_waits (ring := ring) (b := 32) (mod32_rng hop.1) (hT.le (by omega))).2)) okV_X7_passes k_ml_X7_264 rfl rfl ⟨Nat.le_of_ble_eq_true rfl, Nat.le_of_ble_eq_true rfl⟩ hN hK hP hD hS hA [0, 1, 2] [] [0, 1, 2] (by decide) rfl rfl (by decide) (by decide) (by decide) rfl (q0 := 0) rfl rfl rfl rfl hl.1 (Nat.le_of_ble_eq_true rfl) dX7_countsDown_37 ⟨Nat.le_refl _, Nat.le_refl _⟩ (fun H locs hP hD hS => ?_)
  refine lv_aload_n hx hb dX7_countsDown_40 rfl (lv_at hl 0 rfl) ?_
  refine va_get (D := G.1) (ci := 10) (v := .ref m1) (C := RX7) (T := TX7) (N := 21) hx hb hts in_X7 hown hK hP 0 rfl rfl 1 (by decide) (hts _ k_fl_X7_7) (fun _ h9 => h9) rfl dX7_countsDown_41 ?_
  refine lv_sipush (v := 414) hx hb dX7_countsDown_44 (by decide) ?_
  refine lv_iload_n hx hb dX7_countsDown_47 rfl (lv_at hl 1 rfl) ?_
  refine lv_iadd hx hb dX7_countsDown_48 ?_
  refine lv_aload_n hx hb dX7_countsDown_49 rfl (lv_at hl 0 rfl) ?_
  refine va_get (D := G.1) (ci := 10) (v := .ref m1) (C := RX7) (T := TX7) (N := 21) hx hb hts in_X7 hown hK hP 0 rfl rfl 1 (by decide) (hts _ k_fl_X7_7) (fun _ h9 => h9) rfl dX7_countsDown_50 ?_
  refine lv_iconst (v := 1) hx hb dX7_countsDown_53 (by decide) ?_
  refine gIald (k := 1) hx hb hK hP 1 0 rfl rfl (by decide) (gInL (by decide)) dX7_countsDown_54 ?_
  refine lv_ldc (v := 1048575) hx hb hown (hts _ k_co_X7_94) dX7_countsDown_55 ?_
  refine lv_iand hx hb dX7_countsDown_57 ?_
  refine va_iast hx hb hK hP hD hS 1 0 rfl rfl (by have z0 : (414 : Int32).toInt = 414 := (by decide); (try have z2 := gI_add (x := 414) (y := p0) (by omega) (by omega)); (try rw [vp_in_iff]); omega) dX7_countsDown_58 (fun H locs hP hD hS => ?_)
  replace hP : va_P G.1 vwCl [(m0, .inr (10, [.int rz, .ref m1, .ref m2, .ref m3, .int hf, .int hs, .ref m6, .int len, .int ec, .int ep, .int pos, .int bg, .int bad, .ref m13, .ref m14, .int plc, .int sta, .ref m17, .ref m18, .ref m19, .int shm])), (m1, .inl (G.2.1.1, 670, .inl (upd ((f_X7_passes (upd ((f_X7_waitsFor w ring (p0 % 32)).1) 1 (f_X7_wrap ((Int32.toInt64 (f_X7_wrap (Int32.toInt64 (((f_X7_waitsFor w ring (p0 % 32)).1) (Int32.toNatClampNeg (414 + p0)))))) - 1))) ((f_X7_waitsFor w ring (p0 % 32)).2) 32).1) (Int32.toNatClampNeg (414 + p0)) ((((f_X7_passes (upd ((f_X7_waitsFor w ring (p0 % 32)).1) 1 (f_X7_wrap ((Int32.toInt64 (f_X7_wrap (Int32.toInt64 (((f_X7_waitsFor w ring (p0 % 32)).1) (Int32.toNatClampNeg (414 + p0)))))) - 1))) ((f_X7_waitsFor w ring (p0 % 32)).2) 32).1) 1) &&& 1048575)))), (m18, .inl (G.2.1.1, 640, .inl ((f_X7_passes (upd ((f_X7_waitsFor w ring (p0 % 32)).1) 1 (f_X7_wrap ((Int32.toInt64 (f_X7_wrap (Int32.toInt64 (((f_X7_waitsFor w ring (p0 % 32)).1) (Int32.toNatClampNeg (414 + p0)))))) - 1))) ((f_X7_waitsFor w ring (p0 % 32)).2) 32).2)))] H := hP
  replace hD : va_D A [(m0, .inr (10, [.int rz, .ref m1, .ref m2, .ref m3, .int hf, .int hs, .ref m6, .int len, .int ec, .int ep, .int pos, .int bg, .int bad, .ref m13, .ref m14, .int plc, .int sta, .ref m17, .ref m18, .ref m19, .int shm])), (m1, .inl (G.2.1.1, 670, .inl (upd ((f_X7_passes (upd ((f_X7_waitsFor w ring (p0 % 32)).1) 1 (f_X7_wrap ((Int32.toInt64 (f_X7_wrap (Int32.toInt64 (((f_X7_waitsFor w ring (p0 % 32)).1) (Int32.toNatClampNeg (414 + p0)))))) - 1))) ((f_X7_waitsFor w ring (p0 % 32)).2) 32).1) (Int32.toNatClampNeg (414 + p0)) ((((f_X7_passes (upd ((f_X7_waitsFor w ring (p0 % 32)).1) 1 (f_X7_wrap ((Int32.toInt64 (f_X7_wrap (Int32.toInt64 (((f_X7_waitsFor w ring (p0 % 32)).1) (Int32.toNatClampNeg (414 + p0)))))) - 1))) ((f_X7_waitsFor w ring (p0 % 32)).2) 32).1) 1) &&& 1048575)))), (m18, .inl (G.2.1.1, 640, .inl ((f_X7_passes (upd ((f_X7_waitsFor w ring (p0 % 32)).1) 1 (f_X7_wrap ((Int32.toInt64 (f_X7_wrap (Int32.toInt64 (((f_X7_waitsFor w ring (p0 % 32)).1) (Int32.toNatClampNeg (414 + p0)))))) - 1))) ((f_X7_waitsFor w ring (p0 % 32)).2) 32).2)))] := hD
  refine lv_aload_n hx hb dX7_countsDown_59 rfl (lv_at hl 0 rfl) ?_
  refine lv_iconst (v := 1) hx hb dX7_countsDown_60 (by decide) ?_
  refine gV (As := [.int 1]) (rest := []) (wr := []) (ws' := [(m0, .inr (10, [.int rz, .ref m1, .ref m2, .ref m3, .int hf, .int hs, .ref m6, .int len, .int ec, .int ep, .int pos, .int bg, .int bad, .ref m13, .ref m14, .int plc, .int sta, .ref m17, .ref m18, .ref m19, .int shm])), (m1, .inl (G.2.1.1, 670, .inl ((f_X7_passes (upd ((f_X7_passes (upd ((f_X7_waitsFor w ring (p0 % 32)).1) 1 (f_X7_wrap ((Int32.toInt64 (f_X7_wrap (Int32.toInt64 (((f_X7_waitsFor w ring (p0 % 32)).1) (Int32.toNatClampNeg (414 + p0)))))) - 1))) ((f_X7_waitsFor w ring (p0 % 32)).2) 32).1) (Int32.toNatClampNeg (414 + p0)) ((((f_X7_passes (upd ((f_X7_waitsFor w ring (p0 % 32)).1) 1 (f_X7_wrap ((Int32.toInt64 (f_X7_wrap (Int32.toInt64 (((f_X7_waitsFor w ring (p0 % 32)).1) (Int32.toNatClampNeg (414 + p0)))))) - 1))) ((f_X7_waitsFor w ring (p0 % 32)).2) 32).1) 1) &&& 1048575)) ((f_X7_passes (upd ((f_X7_waitsFor w ring (p0 % 32)).1) 1 (f_X7_wrap ((Int32.toInt64 (f_X7_wrap (Int32.toInt64 (((f_X7_waitsFor w ring (p0 % 32)).1) (Int32.toNatClampNeg (414 + p0)))))) - 1))) ((f_X7_waitsFor w ring (p0 % 32)).2) 32).2) 1).1))), (m18, .inl (G.2.1.1, 640, .inl ((f_X7_passes (upd ((f_X7_passes (upd ((f_X7_waitsFor w ring (p0 % 32)).1) 1 (f_X7_wrap ((Int32.toInt64 (f_X7_wrap (Int32.toInt64 (((f_X7_waitsFor w ring (p0 % 32)).1) (Int32.toNatClampNeg (414 + p0)))))) - 1))) ((f_X7_waitsFor w ring (p0 % 32)).2) 32).1) (Int32.toNatClampNeg (414 + p0)) ((((f_X7_passes (upd ((f_X7_waitsFor w ring (p0 % 32)).1) 1 (f_X7_wrap ((Int32.toInt64 (f_X7_wrap (Int32.toInt64 (((f_X7_waitsFor w ring (p0 % 32)).1) (Int32.toNatClampNeg (414 + p0)))))) - 1))) ((f_X7_waitsFor w ring (p0 % 32)).2) 32).1) 1) &&& 1048575)) ((f_X7_passes (upd ((f_X7_waitsFor w ring (p0 % 32)).1) 1 (f_X7_wrap ((Int32.toInt64 (f_X7_wrap (Int32.toInt64 (((f_X7_waitsFor w ring (p0 % 32)).1) (Int32.toNatClampNeg (414 + p0)))))) - 1))) ((f_X7_waitsFor w ring (p0 % 32)).2) 32).2) 1).2)))]) F (c_X7_passes l G m0 m1 m2 m3 m6 m13 m14 m17 m18 m19 rz hf hs len ec ep pos bg bad plc sta shm (upd ((f_X7_passes (upd ((f_X7_waitsFor w ring (p0 % 32)).1) 1 (f_X7_wrap ((Int32.toInt64 (f_X7_wrap (Int32.toInt64 (((f_X7_waitsFor w ring (p0 % 32)).1) (Int32.toNatClampNeg (414 + p0)))))) - 1))) ((f_X7_waitsFor w ring (p0 % 32)).2) 32).1) (Int32.toNatClampNeg (414 + p0)) ((((f_X7_passes (upd ((f_X7_waitsFor w ring (p0 % 32)).1) 1 (f_X7_wrap ((Int32.toInt64 (f_X7_wrap (Int32.toInt64 (((f_X7_waitsFor w ring (p0 % 32)).1) (Int32.toNatClampNeg (414 + p0)))))) - 1))) ((f_X7_waitsFor w ring (p0 % 32)).2) 32).1) 1) &&& 1048575)) ((f_X7_passes (upd ((f_X7_waitsFor w ring (p0 % 32)).1) 1 (f_X7_wrap ((Int32.toInt64 (f_X7_wrap (Int32.toInt64 (((f_X7_waitsFor w ring (p0 % 32)).1) (Int32.toNatClampNeg (414 + p0)))))) - 1))) ((f_X7_waitsFor w ring (p0 % 32)).2) 32).2) 1 (RT_upd (RT_passes (ring := ((f_X7_waitsFor w ring (p0 % 32)).2)) (n := 32) (b := 1) (show RT (upd ((f_X7_waitsFor w ring (p0 % 32)).1) 1 (f_X7_wrap ((Int32.toInt64 (f_X7_wrap (Int32.toInt64 (((f_X7_waitsFor w ring (p0 % 32)).1) (Int32.toNatClampNeg (414 + p0)))))) - 1))) 34 from (RT_waits (ring := ring) (b := 33) (mod32_rng hop.1) (hT.le (by omega))).2)).2 (by first | (rw [ixOp hop]; omega)))) okV_X7_passes k_ml_X7_264 rfl rfl ⟨Nat.le_of_ble_eq_true rfl, Nat.le_of_ble_eq_true rfl⟩ hN hK hP hD hS hA [0, 1, 2] [] [0, 1, 2] (by decide) rfl rfl (by decide) (by decide) (by decide) rfl (q0 := 0) rfl rfl rfl rfl hl.1 (Nat.le_of_ble_eq_true rfl) dX7_countsDown_61 ⟨Nat.le_refl _, Nat.le_refl _⟩ (fun H locs hP hD hS => ?_)
  exact gRetV F hr hlocks hK hP hD hS rfl rfl (Nat.le_of_ble_eq_true rfl) (Nat.le_of_ble_eq_true rfl) dX7_countsDown_64
theorem okV_X7_countsDown : gOkV yX7_countsDown cX7_countsDown 2 none 1 := ⟨⟨k_im_X7_countsDown, k_se_X7_countsDown, k_in_X7, k_cd_X7_countsDown⟩, by decide, by decide, by decide +kernel⟩
def f_X7_reads (w : Nat → Int32) (ring : Nat → Int32) (p0 : Int32) (p1 : Int32) : (Nat → Int32) × (Nat → Int32) :=
  if p0 = 7 then
    ((f_X7_passes (f_X7_works ((f_X7_waitsFor w ring (p1 % 32)).1) p0 (f_X7_wrap (Int32.toInt64 (((f_X7_waitsFor w ring (p1 % 32)).1) (Int32.toNatClampNeg (414 + p1)))))) ((f_X7_waitsFor w ring (p1 % 32)).2) 21).1, (f_X7_passes (f_X7_works ((f_X7_waitsFor w ring (p1 % 32)).1) p0 (f_X7_wrap (Int32.toInt64 (((f_X7_waitsFor w ring (p1 % 32)).1) (Int32.toNatClampNeg (414 + p1)))))) ((f_X7_waitsFor w ring (p1 % 32)).2) 21).2)
  else
    ((f_X7_passes (f_X7_works ((f_X7_waitsFor w ring (p1 % 32)).1) p0 (f_X7_wrap (Int32.toInt64 (((f_X7_waitsFor w ring (p1 % 32)).1) (Int32.toNatClampNeg (414 + p1)))))) ((f_X7_waitsFor w ring (p1 % 32)).2) 1).1, (f_X7_passes (f_X7_works ((f_X7_waitsFor w ring (p1 % 32)).1) p0 (f_X7_wrap (Int32.toInt64 (((f_X7_waitsFor w ring (p1 % 32)).1) (Int32.toNatClampNeg (414 + p1)))))) ((f_X7_waitsFor w ring (p1 % 32)).2) 1).2)
set_option maxRecDepth 100000 in
set_option maxHeartbeats 4000000 in
theorem c_X7_reads (l : Launch) (G : gG) (m0 : Nat) (m1 : Nat) (m2 : Nat) (m3 : Nat) (m6 : Nat) (m13 : Nat) (m14 : Nat) (m17 : Nat) (m18 : Nat) (m19 : Nat) (rz : Int32) (hf : Int32) (hs : Int32) (len : Int32) (ec : Int32) (ep : Int32) (pos : Int32) (bg : Int32) (bad : Int32) (plc : Int32) (sta : Int32) (shm : Int32) (w : Nat → Int32) (ring : Nat → Int32) (p0 : Int32) (p1 : Int32) (hop : 0 ≤ p1.toInt ∧ p1.toInt < 256) (hT : RT w 56) : gM l G yX7_reads cX7_reads 4 none { frames := 6, cells := 0, slots := 0, locals := 129 } [.ref m0, .int p0, .int p1] [(m0, .inr (10, [.int rz, .ref m1, .ref m2, .ref m3, .int hf, .int hs, .ref m6, .int len, .int ec, .int ep, .int pos, .int bg, .int bad, .ref m13, .ref m14, .int plc, .int sta, .ref m17, .ref m18, .ref m19, .int shm])), (m1, .inl (G.2.1.1, 670, .inl w)), (m18, .inl (G.2.1.1, 640, .inl ring))] none [(m0, .inr (10, [.int rz, .ref m1, .ref m2, .ref m3, .int hf, .int hs, .ref m6, .int len, .int ec, .int ep, .int pos, .int bg, .int bad, .ref m13, .ref m14, .int plc, .int sta, .ref m17, .ref m18, .ref m19, .int shm])), (m1, .inl (G.2.1.1, 670, .inl ((f_X7_reads w ring p0 p1).1))), (m18, .inl (G.2.1.1, 640, .inl ((f_X7_reads w ring p0 p1).2)))] 0 0 := by
  refine gBegin (by decide +kernel) (Nat.le_of_ble_eq_true rfl) (fun p e s m args below meth c A F hr hlocks hname hN hK hP hD hA hS ls hl => ?_)
  obtain ⟨hx, hb, hml, hown, hts⟩ := id F
  replace hP : va_P G.1 vwCl [(m0, .inr (10, [.int rz, .ref m1, .ref m2, .ref m3, .int hf, .int hs, .ref m6, .int len, .int ec, .int ep, .int pos, .int bg, .int bad, .ref m13, .ref m14, .int plc, .int sta, .ref m17, .ref m18, .ref m19, .int shm])), (m1, .inl (G.2.1.1, 670, .inl w)), (m18, .inl (G.2.1.1, 640, .inl ring))] s.heap := hP
  replace hl : lv_has ls 4 [(0, .ref m0), (1, .int p0), (2, .int p1)] := hl
  refine lv_aload_n hx hb dX7_reads_0 rfl (lv_at hl 0 rfl) ?_
  refine lv_iload_n hx hb dX7_reads_1 rfl (lv_at hl 2 rfl) ?_
  refine lv_bipush (v := 32) hx hb dX7_reads_2 (by decide) ?_
  refine gIrem hx hb dX7_reads_4 (by decide) ?_
  refine gV (As := [.int (p1 % 32)]) (rest := []) (wr := []) (ws' := [(m0, .inr (10, [.int rz, .ref m1, .ref m2, .ref m3, .int hf, .int hs, .ref m6, .int len, .int ec, .int ep, .int pos, .int bg, .int bad, .ref m13, .ref m14, .int plc, .int sta, .ref m17, .ref m18, .ref m19, .int shm])), (m1, .inl (G.2.1.1, 670, .inl ((f_X7_waitsFor w ring (p1 % 32)).1))), (m18, .inl (G.2.1.1, 640, .inl ((f_X7_waitsFor w ring (p1 % 32)).2)))]) F (c_X7_waitsFor l G m0 m1 m2 m3 m6 m13 m14 m17 m18 m19 rz hf hs len ec ep pos bg bad plc sta shm w ring (p1 % 32) (mod32_rng hop.1) (hT.le (by omega))) okV_X7_waitsFor k_ml_X7_271 rfl rfl ⟨Nat.le_of_ble_eq_true rfl, Nat.le_of_ble_eq_true rfl⟩ hN hK hP hD hS hA [0, 1, 2] [] [0, 1, 2] (by decide) rfl rfl (by decide) (by decide) (by decide) rfl (q0 := 0) rfl rfl rfl rfl hl.1 (Nat.le_of_ble_eq_true rfl) dX7_reads_5 ⟨Nat.le_refl _, Nat.le_refl _⟩ (fun H locs hP hD hS => ?_)
  refine lv_aload_n hx hb dX7_reads_8 rfl (lv_at hl 0 rfl) ?_
  refine va_get (D := G.1) (ci := 10) (v := .ref m1) (C := RX7) (T := TX7) (N := 21) hx hb hts in_X7 hown hK hP 0 rfl rfl 1 (by decide) (hts _ k_fl_X7_7) (fun _ h9 => h9) rfl dX7_reads_9 ?_
  refine lv_sipush (v := 414) hx hb dX7_reads_12 (by decide) ?_
  refine lv_iload_n hx hb dX7_reads_15 rfl (lv_at hl 2 rfl) ?_
  refine lv_iadd hx hb dX7_reads_16 ?_
  refine va_iald hx hb hK hP 1 0 rfl rfl (by have z0 : (414 : Int32).toInt = 414 := (by decide); (try have z2 := gI_add (x := 414) (y := p1) (by omega) (by omega)); (try rw [vp_in_iff]); omega) dX7_reads_17 ?_
  refine lv_i2l (v := (Int32.toInt64 (((f_X7_waitsFor w ring (p1 % 32)).1) (Int32.toNatClampNeg (414 + p1))))) hx hb dX7_reads_18 rfl ?_
  refine gS (As := [.long (Int32.toInt64 (((f_X7_waitsFor w ring (p1 % 32)).1) (Int32.toNatClampNeg (414 + p1))))]) (rest := []) (wr := [(m0, .inr (10, [.int rz, .ref m1, .ref m2, .ref m3, .int hf, .int hs, .ref m6, .int len, .int ec, .int ep, .int pos, .int bg, .int bad, .ref m13, .ref m14, .int plc, .int sta, .ref m17, .ref m18, .ref m19, .int shm])), (m1, .inl (G.2.1.1, 670, .inl ((f_X7_waitsFor w ring (p1 % 32)).1))), (m18, .inl (G.2.1.1, 640, .inl ((f_X7_waitsFor w ring (p1 % 32)).2)))]) (ws' := [(m0, .inr (10, [.int rz, .ref m1, .ref m2, .ref m3, .int hf, .int hs, .ref m6, .int len, .int ec, .int ep, .int pos, .int bg, .int bad, .ref m13, .ref m14, .int plc, .int sta, .ref m17, .ref m18, .ref m19, .int shm])), (m1, .inl (G.2.1.1, 670, .inl ((f_X7_waitsFor w ring (p1 % 32)).1))), (m18, .inl (G.2.1.1, 640, .inl ((f_X7_waitsFor w ring (p1 % 32)).2)))]) F (c_X7_wrap l G (Int32.toInt64 (((f_X7_waitsFor w ring (p1 % 32)).1) (Int32.toNatClampNeg (414 + p1))))) okS_X7_wrap k_ml_X7_197 rfl rfl ⟨Nat.le_of_ble_eq_true rfl, Nat.le_of_ble_eq_true rfl⟩ hN hK hP hD hS hA [] [0, 1, 2] [0, 1, 2] (by decide) rfl rfl (by decide) (by decide) (by decide) rfl rfl rfl hl.1 (Nat.le_of_ble_eq_true rfl) dX7_reads_19 ⟨Nat.le_refl _, Nat.le_refl _⟩ (fun H locs hP hD hS => ?_)
  refine lv_istore_n (lv' := [(3, .int (f_X7_wrap (Int32.toInt64 (((f_X7_waitsFor w ring (p1 % 32)).1) (Int32.toNatClampNeg (414 + p1)))))), (0, .ref m0), (1, .int p0), (2, .int p1)]) hx hb dX7_reads_22 rfl hl (by decide) rfl (fun ls hl => ?_)
  refine lv_aload_n hx hb dX7_reads_23 rfl (lv_at hl 1 rfl) ?_
  refine lv_iload_n hx hb dX7_reads_24 rfl (lv_at hl 2 rfl) ?_
  refine lv_iload_n hx hb dX7_reads_25 rfl (lv_at hl 0 rfl) ?_
  refine gV (As := [.int p0, .int (f_X7_wrap (Int32.toInt64 (((f_X7_waitsFor w ring (p1 % 32)).1) (Int32.toNatClampNeg (414 + p1)))))]) (rest := []) (wr := [(m18, .inl (G.2.1.1, 640, .inl ((f_X7_waitsFor w ring (p1 % 32)).2)))]) (ws' := [(m0, .inr (10, [.int rz, .ref m1, .ref m2, .ref m3, .int hf, .int hs, .ref m6, .int len, .int ec, .int ep, .int pos, .int bg, .int bad, .ref m13, .ref m14, .int plc, .int sta, .ref m17, .ref m18, .ref m19, .int shm])), (m1, .inl (G.2.1.1, 670, .inl (f_X7_works ((f_X7_waitsFor w ring (p1 % 32)).1) p0 (f_X7_wrap (Int32.toInt64 (((f_X7_waitsFor w ring (p1 % 32)).1) (Int32.toNatClampNeg (414 + p1)))))))), (m18, .inl (G.2.1.1, 640, .inl ((f_X7_waitsFor w ring (p1 % 32)).2)))]) F (c_X7_works l G m0 m1 m2 m3 m6 m13 m14 m17 m18 m19 rz hf hs len ec ep pos bg bad plc sta shm ((f_X7_waitsFor w ring (p1 % 32)).1) p0 (f_X7_wrap (Int32.toInt64 (((f_X7_waitsFor w ring (p1 % 32)).1) (Int32.toNatClampNeg (414 + p1)))))) okV_X7_works k_ml_X7_274 rfl rfl ⟨Nat.le_of_ble_eq_true rfl, Nat.le_of_ble_eq_true rfl⟩ hN hK hP hD hS hA [0, 1] [2] [1, 2, 0] (by decide) rfl rfl (by decide) (by decide) (by decide) rfl (q0 := 0) rfl rfl rfl rfl hl.1 (Nat.le_of_ble_eq_true rfl) dX7_reads_26 ⟨Nat.le_refl _, Nat.le_refl _⟩ (fun H locs hP hD hS => ?_)
  refine lv_aload_n hx hb dX7_reads_29 rfl (lv_at hl 1 rfl) ?_
  refine lv_iload_n hx hb dX7_reads_30 rfl (lv_at hl 2 rfl) ?_
  refine lv_bipush (v := 7) hx hb dX7_reads_31 (by decide) ?_
  refine lv_icmp_ne (tgt := 41) hx hb dX7_reads_33 (by decide) (fun c_1 => ?_) (fun c_1 => ?_)
  · skip
    refine lv_iconst (v := 1) hx hb dX7_reads_41 (by decide) ?_
    refine gV (As := [.int 1]) (rest := []) (wr := []) (ws' := [(m0, .inr (10, [.int rz, .ref m1, .ref m2, .ref m3, .int hf, .int hs, .ref m6, .int len, .int ec, .int ep, .int pos, .int bg, .int bad, .ref m13, .ref m14, .int plc, .int sta, .ref m17, .ref m18, .ref m19, .int shm])), (m1, .inl (G.2.1.1, 670, .inl ((f_X7_passes (f_X7_works ((f_X7_waitsFor w ring (p1 % 32)).1) p0 (f_X7_wrap (Int32.toInt64 (((f_X7_waitsFor w ring (p1 % 32)).1) (Int32.toNatClampNeg (414 + p1)))))) ((f_X7_waitsFor w ring (p1 % 32)).2) 1).1))), (m18, .inl (G.2.1.1, 640, .inl ((f_X7_passes (f_X7_works ((f_X7_waitsFor w ring (p1 % 32)).1) p0 (f_X7_wrap (Int32.toInt64 (((f_X7_waitsFor w ring (p1 % 32)).1) (Int32.toNatClampNeg (414 + p1)))))) ((f_X7_waitsFor w ring (p1 % 32)).2) 1).2)))]) F (c_X7_passes l G m0 m1 m2 m3 m6 m13 m14 m17 m18 m19 rz hf hs len ec ep pos bg bad plc sta shm (f_X7_works ((f_X7_waitsFor w ring (p1 % 32)).1) p0 (f_X7_wrap (Int32.toInt64 (((f_X7_waitsFor w ring (p1 % 32)).1) (Int32.toNatClampNeg (414 + p1)))))) ((f_X7_waitsFor w ring (p1 % 32)).2) 1 (RT_works (RT_waits (ring := ring) (b := 1) (mod32_rng hop.1) (hT.le (by omega))).2)) okV_X7_passes k_ml_X7_264 rfl rfl ⟨Nat.le_of_ble_eq_true rfl, Nat.le_of_ble_eq_true rfl⟩ hN hK hP hD hS hA [0, 1, 2] [] [0, 1, 2] (by decide) rfl rfl (by decide) (by decide) (by decide) rfl (q0 := 0) rfl rfl rfl rfl hl.1 (Nat.le_of_ble_eq_true rfl) dX7_reads_42 ⟨Nat.le_refl _, Nat.le_refl _⟩ (fun H locs hP hD hS => ?_)
    have ef : (f_X7_reads w ring p0 p1) = ((f_X7_passes (f_X7_works ((f_X7_waitsFor w ring (p1 % 32)).1) p0 (f_X7_wrap (Int32.toInt64 (((f_X7_waitsFor w ring (p1 % 32)).1) (Int32.toNatClampNeg (414 + p1)))))) ((f_X7_waitsFor w ring (p1 % 32)).2) 1).1, (f_X7_passes (f_X7_works ((f_X7_waitsFor w ring (p1 % 32)).1) p0 (f_X7_wrap (Int32.toInt64 (((f_X7_waitsFor w ring (p1 % 32)).1) (Int32.toNatClampNeg (414 + p1)))))) ((f_X7_waitsFor w ring (p1 % 32)).2) 1).2) := (if_neg c_1)
    exact gRetV F hr hlocks hK hP hD hS rfl (by rw [ef]) (Nat.le_of_ble_eq_true rfl) (Nat.le_of_ble_eq_true rfl) dX7_reads_45
  · skip
    refine lv_bipush (v := 21) hx hb dX7_reads_36 (by decide) ?_
    refine lv_goto (tgt := 42) hx hb dX7_reads_38 (by decide) ?_
    refine gV (As := [.int 21]) (rest := []) (wr := []) (ws' := [(m0, .inr (10, [.int rz, .ref m1, .ref m2, .ref m3, .int hf, .int hs, .ref m6, .int len, .int ec, .int ep, .int pos, .int bg, .int bad, .ref m13, .ref m14, .int plc, .int sta, .ref m17, .ref m18, .ref m19, .int shm])), (m1, .inl (G.2.1.1, 670, .inl ((f_X7_passes (f_X7_works ((f_X7_waitsFor w ring (p1 % 32)).1) p0 (f_X7_wrap (Int32.toInt64 (((f_X7_waitsFor w ring (p1 % 32)).1) (Int32.toNatClampNeg (414 + p1)))))) ((f_X7_waitsFor w ring (p1 % 32)).2) 21).1))), (m18, .inl (G.2.1.1, 640, .inl ((f_X7_passes (f_X7_works ((f_X7_waitsFor w ring (p1 % 32)).1) p0 (f_X7_wrap (Int32.toInt64 (((f_X7_waitsFor w ring (p1 % 32)).1) (Int32.toNatClampNeg (414 + p1)))))) ((f_X7_waitsFor w ring (p1 % 32)).2) 21).2)))]) F (c_X7_passes l G m0 m1 m2 m3 m6 m13 m14 m17 m18 m19 rz hf hs len ec ep pos bg bad plc sta shm (f_X7_works ((f_X7_waitsFor w ring (p1 % 32)).1) p0 (f_X7_wrap (Int32.toInt64 (((f_X7_waitsFor w ring (p1 % 32)).1) (Int32.toNatClampNeg (414 + p1)))))) ((f_X7_waitsFor w ring (p1 % 32)).2) 21 (RT_works (RT_waits (ring := ring) (b := 21) (mod32_rng hop.1) (hT.le (by omega))).2)) okV_X7_passes k_ml_X7_264 rfl rfl ⟨Nat.le_of_ble_eq_true rfl, Nat.le_of_ble_eq_true rfl⟩ hN hK hP hD hS hA [0, 1, 2] [] [0, 1, 2] (by decide) rfl rfl (by decide) (by decide) (by decide) rfl (q0 := 0) rfl rfl rfl rfl hl.1 (Nat.le_of_ble_eq_true rfl) dX7_reads_42 ⟨Nat.le_refl _, Nat.le_refl _⟩ (fun H locs hP hD hS => ?_)
    have ef : (f_X7_reads w ring p0 p1) = ((f_X7_passes (f_X7_works ((f_X7_waitsFor w ring (p1 % 32)).1) p0 (f_X7_wrap (Int32.toInt64 (((f_X7_waitsFor w ring (p1 % 32)).1) (Int32.toNatClampNeg (414 + p1)))))) ((f_X7_waitsFor w ring (p1 % 32)).2) 21).1, (f_X7_passes (f_X7_works ((f_X7_waitsFor w ring (p1 % 32)).1) p0 (f_X7_wrap (Int32.toInt64 (((f_X7_waitsFor w ring (p1 % 32)).1) (Int32.toNatClampNeg (414 + p1)))))) ((f_X7_waitsFor w ring (p1 % 32)).2) 21).2) := (if_pos c_1)
    exact gRetV F hr hlocks hK hP hD hS rfl (by rw [ef]) (Nat.le_of_ble_eq_true rfl) (Nat.le_of_ble_eq_true rfl) dX7_reads_45
theorem okV_X7_reads : gOkV yX7_reads cX7_reads 4 none 2 := ⟨⟨k_im_X7_reads, k_se_X7_reads, k_in_X7, k_cd_X7_reads⟩, by decide, by decide, by decide +kernel⟩
def f_X7_shifts (w : Nat → Int32) (ring : Nat → Int32) (p0 : Int32) (p1 : Int32) : (Nat → Int32) × (Nat → Int32) :=
  if p0 = 8 then
    ((f_X7_passes (f_X7_takes w ((Int32.toInt64 (w 1)) <<< ((Int32.toInt64 p1) &&& 63)) 0) ring (Int32.toNatClampNeg (1 + p1))).1, (f_X7_passes (f_X7_takes w ((Int32.toInt64 (w 1)) <<< ((Int32.toInt64 p1) &&& 63)) 0) ring (Int32.toNatClampNeg (1 + p1))).2)
  else
    ((f_X7_passes (f_X7_takes w ((Int32.toInt64 (w 1)) >>> ((Int32.toInt64 p1) &&& 63)) 0) ring (Int32.toNatClampNeg (1 + p1))).1, (f_X7_passes (f_X7_takes w ((Int32.toInt64 (w 1)) >>> ((Int32.toInt64 p1) &&& 63)) 0) ring (Int32.toNatClampNeg (1 + p1))).2)
set_option maxRecDepth 100000 in
set_option maxHeartbeats 4000000 in
theorem c_X7_shifts (l : Launch) (G : gG) (m0 : Nat) (m1 : Nat) (m2 : Nat) (m3 : Nat) (m6 : Nat) (m13 : Nat) (m14 : Nat) (m17 : Nat) (m18 : Nat) (m19 : Nat) (rz : Int32) (hf : Int32) (hs : Int32) (len : Int32) (ec : Int32) (ep : Int32) (pos : Int32) (bg : Int32) (bad : Int32) (plc : Int32) (sta : Int32) (shm : Int32) (w : Nat → Int32) (ring : Nat → Int32) (p0 : Int32) (p1 : Int32) (hs5 : 0 ≤ p1.toInt ∧ p1.toInt < 32) (hT : RT w 35) : gM l G yX7_shifts cX7_shifts 3 none { frames := 5, cells := 0, slots := 0, locals := 107 } [.ref m0, .int p0, .int p1] [(m0, .inr (10, [.int rz, .ref m1, .ref m2, .ref m3, .int hf, .int hs, .ref m6, .int len, .int ec, .int ep, .int pos, .int bg, .int bad, .ref m13, .ref m14, .int plc, .int sta, .ref m17, .ref m18, .ref m19, .int shm])), (m1, .inl (G.2.1.1, 670, .inl w)), (m18, .inl (G.2.1.1, 640, .inl ring))] none [(m0, .inr (10, [.int rz, .ref m1, .ref m2, .ref m3, .int hf, .int hs, .ref m6, .int len, .int ec, .int ep, .int pos, .int bg, .int bad, .ref m13, .ref m14, .int plc, .int sta, .ref m17, .ref m18, .ref m19, .int shm])), (m1, .inl (G.2.1.1, 670, .inl ((f_X7_shifts w ring p0 p1).1))), (m18, .inl (G.2.1.1, 640, .inl ((f_X7_shifts w ring p0 p1).2)))] 0 0 := by
  refine gBegin (by decide +kernel) (Nat.le_of_ble_eq_true rfl) (fun p e s m args below meth c A F hr hlocks hname hN hK hP hD hA hS ls hl => ?_)
  obtain ⟨hx, hb, hml, hown, hts⟩ := id F
  replace hP : va_P G.1 vwCl [(m0, .inr (10, [.int rz, .ref m1, .ref m2, .ref m3, .int hf, .int hs, .ref m6, .int len, .int ec, .int ep, .int pos, .int bg, .int bad, .ref m13, .ref m14, .int plc, .int sta, .ref m17, .ref m18, .ref m19, .int shm])), (m1, .inl (G.2.1.1, 670, .inl w)), (m18, .inl (G.2.1.1, 640, .inl ring))] s.heap := hP
  replace hl : lv_has ls 3 [(0, .ref m0), (1, .int p0), (2, .int p1)] := hl
  refine lv_aload_n hx hb dX7_shifts_0 rfl (lv_at hl 0 rfl) ?_
  refine lv_iload_n hx hb dX7_shifts_1 rfl (lv_at hl 1 rfl) ?_
  refine lv_bipush (v := 8) hx hb dX7_shifts_2 (by decide) ?_
  refine lv_icmp_ne (tgt := 19) hx hb dX7_shifts_4 (by decide) (fun c_1 => ?_) (fun c_1 => ?_)
  · skip
    refine lv_aload_n hx hb dX7_shifts_19 rfl (lv_at hl 0 rfl) ?_
    refine va_get (D := G.1) (ci := 10) (v := .ref m1) (C := RX7) (T := TX7) (N := 21) hx hb hts in_X7 hown hK hP 0 rfl rfl 1 (by decide) (hts _ k_fl_X7_7) (fun _ h9 => h9) rfl dX7_shifts_20 ?_
    refine lv_iconst (v := 1) hx hb dX7_shifts_23 (by decide) ?_
    refine gIald (k := 1) hx hb hK hP 1 0 rfl rfl (by decide) (gInL (by decide)) dX7_shifts_24 ?_
    refine lv_i2l (v := (Int32.toInt64 (w 1))) hx hb dX7_shifts_25 rfl ?_
    refine lv_iload_n hx hb dX7_shifts_26 rfl (lv_at hl 2 rfl) ?_
    refine lv_lshr (v := ((Int32.toInt64 (w 1)) >>> ((Int32.toInt64 p1) &&& 63))) hx hb dX7_shifts_27 rfl ?_
    refine lv_iconst (v := 0) hx hb dX7_shifts_28 (by decide) ?_
    refine gV (As := [.long ((Int32.toInt64 (w 1)) >>> ((Int32.toInt64 p1) &&& 63)), .int 0]) (rest := []) (wr := [(m18, .inl (G.2.1.1, 640, .inl ring))]) (ws' := [(m0, .inr (10, [.int rz, .ref m1, .ref m2, .ref m3, .int hf, .int hs, .ref m6, .int len, .int ec, .int ep, .int pos, .int bg, .int bad, .ref m13, .ref m14, .int plc, .int sta, .ref m17, .ref m18, .ref m19, .int shm])), (m1, .inl (G.2.1.1, 670, .inl (f_X7_takes w ((Int32.toInt64 (w 1)) >>> ((Int32.toInt64 p1) &&& 63)) 0))), (m18, .inl (G.2.1.1, 640, .inl ring))]) F (c_X7_takes l G m0 m1 m2 m3 m6 m13 m14 m17 m18 m19 rz hf hs len ec ep pos bg bad plc sta shm w ((Int32.toInt64 (w 1)) >>> ((Int32.toInt64 p1) &&& 63)) 0) okV_X7_takes k_ml_X7_267 rfl rfl ⟨Nat.le_of_ble_eq_true rfl, Nat.le_of_ble_eq_true rfl⟩ hN hK hP hD hS hA [0, 1] [2] [1, 2, 0] (by decide) rfl rfl (by decide) (by decide) (by decide) rfl (q0 := 0) rfl rfl rfl rfl hl.1 (Nat.le_of_ble_eq_true rfl) dX7_shifts_29 ⟨Nat.le_refl _, Nat.le_refl _⟩ (fun H locs hP hD hS => ?_)
    refine lv_aload_n hx hb dX7_shifts_32 rfl (lv_at hl 0 rfl) ?_
    refine lv_iconst (v := 1) hx hb dX7_shifts_33 (by decide) ?_
    refine lv_iload_n hx hb dX7_shifts_34 rfl (lv_at hl 2 rfl) ?_
    refine lv_iadd hx hb dX7_shifts_35 ?_
    refine W.eq (congrArg (fun z => F0 m _ ls [.int z, .ref m0]) (gI_nI (x := (1 + p1)) (by have z0 : (1 : Int32).toInt = 1 := (by decide); (try have z2 := gI_add (x := 1) (y := p1) (by omega) (by omega)); omega) : (1 + p1) = nI (Int32.toNatClampNeg (1 + p1)))) ?_
    refine gV (As := [.int (nI (Int32.toNatClampNeg (1 + p1)))]) (rest := []) (wr := []) (ws' := [(m0, .inr (10, [.int rz, .ref m1, .ref m2, .ref m3, .int hf, .int hs, .ref m6, .int len, .int ec, .int ep, .int pos, .int bg, .int bad, .ref m13, .ref m14, .int plc, .int sta, .ref m17, .ref m18, .ref m19, .int shm])), (m1, .inl (G.2.1.1, 670, .inl ((f_X7_passes (f_X7_takes w ((Int32.toInt64 (w 1)) >>> ((Int32.toInt64 p1) &&& 63)) 0) ring (Int32.toNatClampNeg (1 + p1))).1))), (m18, .inl (G.2.1.1, 640, .inl ((f_X7_passes (f_X7_takes w ((Int32.toInt64 (w 1)) >>> ((Int32.toInt64 p1) &&& 63)) 0) ring (Int32.toNatClampNeg (1 + p1))).2)))]) F (c_X7_passes l G m0 m1 m2 m3 m6 m13 m14 m17 m18 m19 rz hf hs len ec ep pos bg bad plc sta shm (f_X7_takes w ((Int32.toInt64 (w 1)) >>> ((Int32.toInt64 p1) &&& 63)) 0) ring (Int32.toNatClampNeg (1 + p1)) (RT.le (b := 35) (RT_takes (hT.le (by omega))) (by have e1 : (1 : Int32).toInt = 1 := (by decide); have e2 := gI_add (x := 1) (y := p1) (by omega) (by omega); have e3 := gI_clamp (x := 1 + p1) (by omega); omega))) okV_X7_passes k_ml_X7_264 rfl rfl ⟨Nat.le_of_ble_eq_true rfl, Nat.le_of_ble_eq_true rfl⟩ hN hK hP hD hS hA [0, 1, 2] [] [0, 1, 2] (by decide) rfl rfl (by decide) (by decide) (by decide) rfl (q0 := 0) rfl rfl rfl rfl hl.1 (Nat.le_of_ble_eq_true rfl) dX7_shifts_36 ⟨Nat.le_refl _, Nat.le_refl _⟩ (fun H locs hP hD hS => ?_)
    have ef : (f_X7_shifts w ring p0 p1) = ((f_X7_passes (f_X7_takes w ((Int32.toInt64 (w 1)) >>> ((Int32.toInt64 p1) &&& 63)) 0) ring (Int32.toNatClampNeg (1 + p1))).1, (f_X7_passes (f_X7_takes w ((Int32.toInt64 (w 1)) >>> ((Int32.toInt64 p1) &&& 63)) 0) ring (Int32.toNatClampNeg (1 + p1))).2) := (if_neg c_1)
    exact gRetV F hr hlocks hK hP hD hS rfl (by rw [ef]) (Nat.le_of_ble_eq_true rfl) (Nat.le_of_ble_eq_true rfl) dX7_shifts_39
  · skip
    refine lv_aload_n hx hb dX7_shifts_7 rfl (lv_at hl 0 rfl) ?_
    refine va_get (D := G.1) (ci := 10) (v := .ref m1) (C := RX7) (T := TX7) (N := 21) hx hb hts in_X7 hown hK hP 0 rfl rfl 1 (by decide) (hts _ k_fl_X7_7) (fun _ h9 => h9) rfl dX7_shifts_8 ?_
    refine lv_iconst (v := 1) hx hb dX7_shifts_11 (by decide) ?_
    refine gIald (k := 1) hx hb hK hP 1 0 rfl rfl (by decide) (gInL (by decide)) dX7_shifts_12 ?_
    refine lv_i2l (v := (Int32.toInt64 (w 1))) hx hb dX7_shifts_13 rfl ?_
    refine lv_iload_n hx hb dX7_shifts_14 rfl (lv_at hl 2 rfl) ?_
    refine lv_lshl (v := ((Int32.toInt64 (w 1)) <<< ((Int32.toInt64 p1) &&& 63))) hx hb dX7_shifts_15 rfl ?_
    refine lv_goto (tgt := 28) hx hb dX7_shifts_16 (by decide) ?_
    refine lv_iconst (v := 0) hx hb dX7_shifts_28 (by decide) ?_
    refine gV (As := [.long ((Int32.toInt64 (w 1)) <<< ((Int32.toInt64 p1) &&& 63)), .int 0]) (rest := []) (wr := [(m18, .inl (G.2.1.1, 640, .inl ring))]) (ws' := [(m0, .inr (10, [.int rz, .ref m1, .ref m2, .ref m3, .int hf, .int hs, .ref m6, .int len, .int ec, .int ep, .int pos, .int bg, .int bad, .ref m13, .ref m14, .int plc, .int sta, .ref m17, .ref m18, .ref m19, .int shm])), (m1, .inl (G.2.1.1, 670, .inl (f_X7_takes w ((Int32.toInt64 (w 1)) <<< ((Int32.toInt64 p1) &&& 63)) 0))), (m18, .inl (G.2.1.1, 640, .inl ring))]) F (c_X7_takes l G m0 m1 m2 m3 m6 m13 m14 m17 m18 m19 rz hf hs len ec ep pos bg bad plc sta shm w ((Int32.toInt64 (w 1)) <<< ((Int32.toInt64 p1) &&& 63)) 0) okV_X7_takes k_ml_X7_267 rfl rfl ⟨Nat.le_of_ble_eq_true rfl, Nat.le_of_ble_eq_true rfl⟩ hN hK hP hD hS hA [0, 1] [2] [1, 2, 0] (by decide) rfl rfl (by decide) (by decide) (by decide) rfl (q0 := 0) rfl rfl rfl rfl hl.1 (Nat.le_of_ble_eq_true rfl) dX7_shifts_29 ⟨Nat.le_refl _, Nat.le_refl _⟩ (fun H locs hP hD hS => ?_)
    refine lv_aload_n hx hb dX7_shifts_32 rfl (lv_at hl 0 rfl) ?_
    refine lv_iconst (v := 1) hx hb dX7_shifts_33 (by decide) ?_
    refine lv_iload_n hx hb dX7_shifts_34 rfl (lv_at hl 2 rfl) ?_
    refine lv_iadd hx hb dX7_shifts_35 ?_
    refine W.eq (congrArg (fun z => F0 m _ ls [.int z, .ref m0]) (gI_nI (x := (1 + p1)) (by have z0 : (1 : Int32).toInt = 1 := (by decide); (try have z2 := gI_add (x := 1) (y := p1) (by omega) (by omega)); omega) : (1 + p1) = nI (Int32.toNatClampNeg (1 + p1)))) ?_
    refine gV (As := [.int (nI (Int32.toNatClampNeg (1 + p1)))]) (rest := []) (wr := []) (ws' := [(m0, .inr (10, [.int rz, .ref m1, .ref m2, .ref m3, .int hf, .int hs, .ref m6, .int len, .int ec, .int ep, .int pos, .int bg, .int bad, .ref m13, .ref m14, .int plc, .int sta, .ref m17, .ref m18, .ref m19, .int shm])), (m1, .inl (G.2.1.1, 670, .inl ((f_X7_passes (f_X7_takes w ((Int32.toInt64 (w 1)) <<< ((Int32.toInt64 p1) &&& 63)) 0) ring (Int32.toNatClampNeg (1 + p1))).1))), (m18, .inl (G.2.1.1, 640, .inl ((f_X7_passes (f_X7_takes w ((Int32.toInt64 (w 1)) <<< ((Int32.toInt64 p1) &&& 63)) 0) ring (Int32.toNatClampNeg (1 + p1))).2)))]) F (c_X7_passes l G m0 m1 m2 m3 m6 m13 m14 m17 m18 m19 rz hf hs len ec ep pos bg bad plc sta shm (f_X7_takes w ((Int32.toInt64 (w 1)) <<< ((Int32.toInt64 p1) &&& 63)) 0) ring (Int32.toNatClampNeg (1 + p1)) (RT.le (b := 35) (RT_takes (hT.le (by omega))) (by have e1 : (1 : Int32).toInt = 1 := (by decide); have e2 := gI_add (x := 1) (y := p1) (by omega) (by omega); have e3 := gI_clamp (x := 1 + p1) (by omega); omega))) okV_X7_passes k_ml_X7_264 rfl rfl ⟨Nat.le_of_ble_eq_true rfl, Nat.le_of_ble_eq_true rfl⟩ hN hK hP hD hS hA [0, 1, 2] [] [0, 1, 2] (by decide) rfl rfl (by decide) (by decide) (by decide) rfl (q0 := 0) rfl rfl rfl rfl hl.1 (Nat.le_of_ble_eq_true rfl) dX7_shifts_36 ⟨Nat.le_refl _, Nat.le_refl _⟩ (fun H locs hP hD hS => ?_)
    have ef : (f_X7_shifts w ring p0 p1) = ((f_X7_passes (f_X7_takes w ((Int32.toInt64 (w 1)) <<< ((Int32.toInt64 p1) &&& 63)) 0) ring (Int32.toNatClampNeg (1 + p1))).1, (f_X7_passes (f_X7_takes w ((Int32.toInt64 (w 1)) <<< ((Int32.toInt64 p1) &&& 63)) 0) ring (Int32.toNatClampNeg (1 + p1))).2) := (if_pos c_1)
    exact gRetV F hr hlocks hK hP hD hS rfl (by rw [ef]) (Nat.le_of_ble_eq_true rfl) (Nat.le_of_ble_eq_true rfl) dX7_shifts_39
theorem okV_X7_shifts : gOkV yX7_shifts cX7_shifts 3 none 2 := ⟨⟨k_im_X7_shifts, k_se_X7_shifts, k_in_X7, k_cd_X7_shifts⟩, by decide, by decide, by decide +kernel⟩
def f_X7_isTaken (w : Nat → Int32) (p0 : Int32) : Int32 × (Nat → Int32) :=
  if p0 = 10 then
    if 0 ≤ (w 1) then
      (0, (upd w 2 (w 2)))
    else
      (1, (upd w 2 (w 2)))
  else
    if p0 = 11 then
      if (w 1) = 0 then
        (1, (upd w 2 (w 2)))
      else
        (0, (upd w 2 (w 2)))
    else
      if (w 2) = 1 then
        if p0 = 12 then
          (1, (upd w 2 0))
        else
          (1, (upd w 2 (w 2)))
      else
        if p0 = 12 then
          (0, (upd w 2 (w 2)))
        else
          (0, (upd w 2 (w 2)))
set_option maxRecDepth 100000 in
set_option maxHeartbeats 4000000 in
theorem c_X7_isTaken (l : Launch) (G : gG) (m0 : Nat) (m1 : Nat) (m2 : Nat) (m3 : Nat) (m6 : Nat) (m13 : Nat) (m14 : Nat) (m17 : Nat) (m18 : Nat) (m19 : Nat) (rz : Int32) (hf : Int32) (hs : Int32) (len : Int32) (ec : Int32) (ep : Int32) (pos : Int32) (bg : Int32) (bad : Int32) (plc : Int32) (sta : Int32) (shm : Int32) (w : Nat → Int32) (p0 : Int32) : gM l G yX7_isTaken cX7_isTaken 3 (some .boolean) { frames := 0, cells := 0, slots := 0, locals := 0 } [.ref m0, .int p0] [(m0, .inr (10, [.int rz, .ref m1, .ref m2, .ref m3, .int hf, .int hs, .ref m6, .int len, .int ec, .int ep, .int pos, .int bg, .int bad, .ref m13, .ref m14, .int plc, .int sta, .ref m17, .ref m18, .ref m19, .int shm])), (m1, .inl (G.2.1.1, 670, .inl w))] (some (.int ((f_X7_isTaken w p0).1))) [(m0, .inr (10, [.int rz, .ref m1, .ref m2, .ref m3, .int hf, .int hs, .ref m6, .int len, .int ec, .int ep, .int pos, .int bg, .int bad, .ref m13, .ref m14, .int plc, .int sta, .ref m17, .ref m18, .ref m19, .int shm])), (m1, .inl (G.2.1.1, 670, .inl ((f_X7_isTaken w p0).2)))] 0 0 := by
  refine gBegin (by decide +kernel) (Nat.le_of_ble_eq_true rfl) (fun p e s m args below meth c A F hr hlocks hname hN hK hP hD hA hS ls hl => ?_)
  obtain ⟨hx, hb, hml, hown, hts⟩ := id F
  replace hP : va_P G.1 vwCl [(m0, .inr (10, [.int rz, .ref m1, .ref m2, .ref m3, .int hf, .int hs, .ref m6, .int len, .int ec, .int ep, .int pos, .int bg, .int bad, .ref m13, .ref m14, .int plc, .int sta, .ref m17, .ref m18, .ref m19, .int shm])), (m1, .inl (G.2.1.1, 670, .inl w))] s.heap := hP
  replace hl : lv_has ls 3 [(0, .ref m0), (1, .int p0)] := hl
  refine lv_iload_n hx hb dX7_isTaken_0 rfl (lv_at hl 1 rfl) ?_
  refine lv_bipush (v := 10) hx hb dX7_isTaken_1 (by decide) ?_
  refine lv_icmp_ne (tgt := 23) hx hb dX7_isTaken_3 (by decide) (fun c_1 => ?_) (fun c_1 => ?_)
  · skip
    refine lv_iload_n hx hb dX7_isTaken_23 rfl (lv_at hl 1 rfl) ?_
    refine lv_bipush (v := 11) hx hb dX7_isTaken_24 (by decide) ?_
    refine lv_icmp_ne (tgt := 46) hx hb dX7_isTaken_26 (by decide) (fun c_2 => ?_) (fun c_2 => ?_)
    · skip
      refine lv_aload_n hx hb dX7_isTaken_46 rfl (lv_at hl 0 rfl) ?_
      refine va_get (D := G.1) (ci := 10) (v := .ref m1) (C := RX7) (T := TX7) (N := 21) hx hb hts in_X7 hown hK hP 0 rfl rfl 1 (by decide) (hts _ k_fl_X7_7) (fun _ h9 => h9) rfl dX7_isTaken_47 ?_
      refine lv_iconst (v := 2) hx hb dX7_isTaken_50 (by decide) ?_
      refine gIald (k := 2) hx hb hK hP 1 0 rfl rfl (by decide) (gInL (by decide)) dX7_isTaken_51 ?_
      refine lv_iconst (v := 1) hx hb dX7_isTaken_52 (by decide) ?_
      refine lv_icmp_ne (tgt := 60) hx hb dX7_isTaken_53 (by decide) (fun c_3 => ?_) (fun c_3 => ?_)
      · skip
        refine lv_iconst (v := 0) hx hb dX7_isTaken_60 (by decide) ?_
        refine lv_istore_n (lv' := [(2, .int 0), (0, .ref m0), (1, .int p0)]) hx hb dX7_isTaken_61 rfl hl (by decide) rfl (fun ls hl => ?_)
        refine lv_aload_n hx hb dX7_isTaken_62 rfl (lv_at hl 1 rfl) ?_
        refine va_get (D := G.1) (ci := 10) (v := .ref m1) (C := RX7) (T := TX7) (N := 21) hx hb hts in_X7 hown hK hP 0 rfl rfl 1 (by decide) (hts _ k_fl_X7_7) (fun _ h9 => h9) rfl dX7_isTaken_63 ?_
        refine lv_iconst (v := 2) hx hb dX7_isTaken_66 (by decide) ?_
        refine lv_iload_n hx hb dX7_isTaken_67 rfl (lv_at hl 2 rfl) ?_
        refine lv_bipush (v := 12) hx hb dX7_isTaken_68 (by decide) ?_
        refine lv_icmp_ne (tgt := 81) hx hb dX7_isTaken_70 (by decide) (fun c_4 => ?_) (fun c_4 => ?_)
        · skip
          refine lv_aload_n hx hb dX7_isTaken_81 rfl (lv_at hl 1 rfl) ?_
          refine va_get (D := G.1) (ci := 10) (v := .ref m1) (C := RX7) (T := TX7) (N := 21) hx hb hts in_X7 hown hK hP 0 rfl rfl 1 (by decide) (hts _ k_fl_X7_7) (fun _ h9 => h9) rfl dX7_isTaken_82 ?_
          refine lv_iconst (v := 2) hx hb dX7_isTaken_85 (by decide) ?_
          refine gIald (k := 2) hx hb hK hP 1 0 rfl rfl (by decide) (gInL (by decide)) dX7_isTaken_86 ?_
          refine gIast (k := 2) hx hb hK hP hD hS 1 0 rfl rfl (by decide) (gInL (by decide)) dX7_isTaken_87 (fun H locs hP hD hS => ?_)
          replace hP : va_P G.1 vwCl [(m0, .inr (10, [.int rz, .ref m1, .ref m2, .ref m3, .int hf, .int hs, .ref m6, .int len, .int ec, .int ep, .int pos, .int bg, .int bad, .ref m13, .ref m14, .int plc, .int sta, .ref m17, .ref m18, .ref m19, .int shm])), (m1, .inl (G.2.1.1, 670, .inl (upd w 2 (w 2))))] H := hP
          replace hD : va_D A [(m0, .inr (10, [.int rz, .ref m1, .ref m2, .ref m3, .int hf, .int hs, .ref m6, .int len, .int ec, .int ep, .int pos, .int bg, .int bad, .ref m13, .ref m14, .int plc, .int sta, .ref m17, .ref m18, .ref m19, .int shm])), (m1, .inl (G.2.1.1, 670, .inl (upd w 2 (w 2))))] := hD
          refine lv_iload_n hx hb dX7_isTaken_88 rfl (lv_at hl 0 rfl) ?_
          have ef : (f_X7_isTaken w p0) = (0, (upd w 2 (w 2))) := ((if_neg c_1).trans ((if_neg c_2).trans ((if_neg c_3).trans (if_neg c_4))))
          exact gRetZ F hr hlocks hK hP hD hS rfl (by rw [ef]) (by rw [ef]) (Nat.le_of_ble_eq_true rfl) (Nat.le_of_ble_eq_true rfl) dX7_isTaken_89
        · skip
          refine lv_iload_n hx hb dX7_isTaken_73 rfl (lv_at hl 0 rfl) ?_
          refine lv_if_eq (tgt := 81) hx hb dX7_isTaken_74 (by decide) (fun c_5 => ?_) (fun c_5 => ?_)
          · skip
            refine lv_aload_n hx hb dX7_isTaken_81 rfl (lv_at hl 1 rfl) ?_
            refine va_get (D := G.1) (ci := 10) (v := .ref m1) (C := RX7) (T := TX7) (N := 21) hx hb hts in_X7 hown hK hP 0 rfl rfl 1 (by decide) (hts _ k_fl_X7_7) (fun _ h9 => h9) rfl dX7_isTaken_82 ?_
            refine lv_iconst (v := 2) hx hb dX7_isTaken_85 (by decide) ?_
            refine gIald (k := 2) hx hb hK hP 1 0 rfl rfl (by decide) (gInL (by decide)) dX7_isTaken_86 ?_
            refine gIast (k := 2) hx hb hK hP hD hS 1 0 rfl rfl (by decide) (gInL (by decide)) dX7_isTaken_87 (fun H locs hP hD hS => ?_)
            replace hP : va_P G.1 vwCl [(m0, .inr (10, [.int rz, .ref m1, .ref m2, .ref m3, .int hf, .int hs, .ref m6, .int len, .int ec, .int ep, .int pos, .int bg, .int bad, .ref m13, .ref m14, .int plc, .int sta, .ref m17, .ref m18, .ref m19, .int shm])), (m1, .inl (G.2.1.1, 670, .inl (upd w 2 (w 2))))] H := hP
            replace hD : va_D A [(m0, .inr (10, [.int rz, .ref m1, .ref m2, .ref m3, .int hf, .int hs, .ref m6, .int len, .int ec, .int ep, .int pos, .int bg, .int bad, .ref m13, .ref m14, .int plc, .int sta, .ref m17, .ref m18, .ref m19, .int shm])), (m1, .inl (G.2.1.1, 670, .inl (upd w 2 (w 2))))] := hD
            refine lv_iload_n hx hb dX7_isTaken_88 rfl (lv_at hl 0 rfl) ?_
            have ef : (f_X7_isTaken w p0) = (0, (upd w 2 (w 2))) := ((if_neg c_1).trans ((if_neg c_2).trans ((if_neg c_3).trans (if_pos c_4))))
            exact gRetZ F hr hlocks hK hP hD hS rfl (by rw [ef]) (by rw [ef]) (Nat.le_of_ble_eq_true rfl) (Nat.le_of_ble_eq_true rfl) dX7_isTaken_89
          · exact absurd c_5 (by decide)
      · skip
        refine lv_iconst (v := 1) hx hb dX7_isTaken_56 (by decide) ?_
        refine lv_goto (tgt := 61) hx hb dX7_isTaken_57 (by decide) ?_
        refine lv_istore_n (lv' := [(2, .int 1), (0, .ref m0), (1, .int p0)]) hx hb dX7_isTaken_61 rfl hl (by decide) rfl (fun ls hl => ?_)
        refine lv_aload_n hx hb dX7_isTaken_62 rfl (lv_at hl 1 rfl) ?_
        refine va_get (D := G.1) (ci := 10) (v := .ref m1) (C := RX7) (T := TX7) (N := 21) hx hb hts in_X7 hown hK hP 0 rfl rfl 1 (by decide) (hts _ k_fl_X7_7) (fun _ h9 => h9) rfl dX7_isTaken_63 ?_
        refine lv_iconst (v := 2) hx hb dX7_isTaken_66 (by decide) ?_
        refine lv_iload_n hx hb dX7_isTaken_67 rfl (lv_at hl 2 rfl) ?_
        refine lv_bipush (v := 12) hx hb dX7_isTaken_68 (by decide) ?_
        refine lv_icmp_ne (tgt := 81) hx hb dX7_isTaken_70 (by decide) (fun c_6 => ?_) (fun c_6 => ?_)
        · skip
          refine lv_aload_n hx hb dX7_isTaken_81 rfl (lv_at hl 1 rfl) ?_
          refine va_get (D := G.1) (ci := 10) (v := .ref m1) (C := RX7) (T := TX7) (N := 21) hx hb hts in_X7 hown hK hP 0 rfl rfl 1 (by decide) (hts _ k_fl_X7_7) (fun _ h9 => h9) rfl dX7_isTaken_82 ?_
          refine lv_iconst (v := 2) hx hb dX7_isTaken_85 (by decide) ?_
          refine gIald (k := 2) hx hb hK hP 1 0 rfl rfl (by decide) (gInL (by decide)) dX7_isTaken_86 ?_
          refine gIast (k := 2) hx hb hK hP hD hS 1 0 rfl rfl (by decide) (gInL (by decide)) dX7_isTaken_87 (fun H locs hP hD hS => ?_)
          replace hP : va_P G.1 vwCl [(m0, .inr (10, [.int rz, .ref m1, .ref m2, .ref m3, .int hf, .int hs, .ref m6, .int len, .int ec, .int ep, .int pos, .int bg, .int bad, .ref m13, .ref m14, .int plc, .int sta, .ref m17, .ref m18, .ref m19, .int shm])), (m1, .inl (G.2.1.1, 670, .inl (upd w 2 (w 2))))] H := hP
          replace hD : va_D A [(m0, .inr (10, [.int rz, .ref m1, .ref m2, .ref m3, .int hf, .int hs, .ref m6, .int len, .int ec, .int ep, .int pos, .int bg, .int bad, .ref m13, .ref m14, .int plc, .int sta, .ref m17, .ref m18, .ref m19, .int shm])), (m1, .inl (G.2.1.1, 670, .inl (upd w 2 (w 2))))] := hD
          refine lv_iload_n hx hb dX7_isTaken_88 rfl (lv_at hl 0 rfl) ?_
          have ef : (f_X7_isTaken w p0) = (1, (upd w 2 (w 2))) := ((if_neg c_1).trans ((if_neg c_2).trans ((if_pos c_3).trans (if_neg c_6))))
          exact gRetZ F hr hlocks hK hP hD hS rfl (by rw [ef]) (by rw [ef]) (Nat.le_of_ble_eq_true rfl) (Nat.le_of_ble_eq_true rfl) dX7_isTaken_89
        · skip
          refine lv_iload_n hx hb dX7_isTaken_73 rfl (lv_at hl 0 rfl) ?_
          refine lv_if_eq (tgt := 81) hx hb dX7_isTaken_74 (by decide) (fun c_7 => ?_) (fun c_7 => ?_)
          · exact absurd c_7 (by decide)
          · skip
            refine lv_iconst (v := 0) hx hb dX7_isTaken_77 (by decide) ?_
            refine lv_goto (tgt := 87) hx hb dX7_isTaken_78 (by decide) ?_
            refine gIast (k := 2) hx hb hK hP hD hS 1 0 rfl rfl (by decide) (gInL (by decide)) dX7_isTaken_87 (fun H locs hP hD hS => ?_)
            replace hP : va_P G.1 vwCl [(m0, .inr (10, [.int rz, .ref m1, .ref m2, .ref m3, .int hf, .int hs, .ref m6, .int len, .int ec, .int ep, .int pos, .int bg, .int bad, .ref m13, .ref m14, .int plc, .int sta, .ref m17, .ref m18, .ref m19, .int shm])), (m1, .inl (G.2.1.1, 670, .inl (upd w 2 0)))] H := hP
            replace hD : va_D A [(m0, .inr (10, [.int rz, .ref m1, .ref m2, .ref m3, .int hf, .int hs, .ref m6, .int len, .int ec, .int ep, .int pos, .int bg, .int bad, .ref m13, .ref m14, .int plc, .int sta, .ref m17, .ref m18, .ref m19, .int shm])), (m1, .inl (G.2.1.1, 670, .inl (upd w 2 0)))] := hD
            refine lv_iload_n hx hb dX7_isTaken_88 rfl (lv_at hl 0 rfl) ?_
            have ef : (f_X7_isTaken w p0) = (1, (upd w 2 0)) := ((if_neg c_1).trans ((if_neg c_2).trans ((if_pos c_3).trans (if_pos c_6))))
            exact gRetZ F hr hlocks hK hP hD hS rfl (by rw [ef]) (by rw [ef]) (Nat.le_of_ble_eq_true rfl) (Nat.le_of_ble_eq_true rfl) dX7_isTaken_89
    · skip
      refine lv_aload_n hx hb dX7_isTaken_29 rfl (lv_at hl 0 rfl) ?_
      refine va_get (D := G.1) (ci := 10) (v := .ref m1) (C := RX7) (T := TX7) (N := 21) hx hb hts in_X7 hown hK hP 0 rfl rfl 1 (by decide) (hts _ k_fl_X7_7) (fun _ h9 => h9) rfl dX7_isTaken_30 ?_
      refine lv_iconst (v := 1) hx hb dX7_isTaken_33 (by decide) ?_
      refine gIald (k := 1) hx hb hK hP 1 0 rfl rfl (by decide) (gInL (by decide)) dX7_isTaken_34 ?_
      refine lv_if_ne (tgt := 42) hx hb dX7_isTaken_35 (by decide) (fun c_8 => ?_) (fun c_8 => ?_)
      · skip
        refine lv_iconst (v := 0) hx hb dX7_isTaken_42 (by decide) ?_
        refine lv_goto (tgt := 61) hx hb dX7_isTaken_43 (by decide) ?_
        refine lv_istore_n (lv' := [(2, .int 0), (0, .ref m0), (1, .int p0)]) hx hb dX7_isTaken_61 rfl hl (by decide) rfl (fun ls hl => ?_)
        refine lv_aload_n hx hb dX7_isTaken_62 rfl (lv_at hl 1 rfl) ?_
        refine va_get (D := G.1) (ci := 10) (v := .ref m1) (C := RX7) (T := TX7) (N := 21) hx hb hts in_X7 hown hK hP 0 rfl rfl 1 (by decide) (hts _ k_fl_X7_7) (fun _ h9 => h9) rfl dX7_isTaken_63 ?_
        refine lv_iconst (v := 2) hx hb dX7_isTaken_66 (by decide) ?_
        refine lv_iload_n hx hb dX7_isTaken_67 rfl (lv_at hl 2 rfl) ?_
        refine lv_bipush (v := 12) hx hb dX7_isTaken_68 (by decide) ?_
        refine lv_icmp_ne (tgt := 81) hx hb dX7_isTaken_70 (by decide) (fun c_9 => ?_) (fun c_9 => ?_)
        · skip
          refine lv_aload_n hx hb dX7_isTaken_81 rfl (lv_at hl 1 rfl) ?_
          refine va_get (D := G.1) (ci := 10) (v := .ref m1) (C := RX7) (T := TX7) (N := 21) hx hb hts in_X7 hown hK hP 0 rfl rfl 1 (by decide) (hts _ k_fl_X7_7) (fun _ h9 => h9) rfl dX7_isTaken_82 ?_
          refine lv_iconst (v := 2) hx hb dX7_isTaken_85 (by decide) ?_
          refine gIald (k := 2) hx hb hK hP 1 0 rfl rfl (by decide) (gInL (by decide)) dX7_isTaken_86 ?_
          refine gIast (k := 2) hx hb hK hP hD hS 1 0 rfl rfl (by decide) (gInL (by decide)) dX7_isTaken_87 (fun H locs hP hD hS => ?_)
          replace hP : va_P G.1 vwCl [(m0, .inr (10, [.int rz, .ref m1, .ref m2, .ref m3, .int hf, .int hs, .ref m6, .int len, .int ec, .int ep, .int pos, .int bg, .int bad, .ref m13, .ref m14, .int plc, .int sta, .ref m17, .ref m18, .ref m19, .int shm])), (m1, .inl (G.2.1.1, 670, .inl (upd w 2 (w 2))))] H := hP
          replace hD : va_D A [(m0, .inr (10, [.int rz, .ref m1, .ref m2, .ref m3, .int hf, .int hs, .ref m6, .int len, .int ec, .int ep, .int pos, .int bg, .int bad, .ref m13, .ref m14, .int plc, .int sta, .ref m17, .ref m18, .ref m19, .int shm])), (m1, .inl (G.2.1.1, 670, .inl (upd w 2 (w 2))))] := hD
          refine lv_iload_n hx hb dX7_isTaken_88 rfl (lv_at hl 0 rfl) ?_
          have ef : (f_X7_isTaken w p0) = (0, (upd w 2 (w 2))) := ((if_neg c_1).trans ((if_pos c_2).trans (if_neg c_8)))
          exact gRetZ F hr hlocks hK hP hD hS rfl (by rw [ef]) (by rw [ef]) (Nat.le_of_ble_eq_true rfl) (Nat.le_of_ble_eq_true rfl) dX7_isTaken_89
        · exact absurd c_9 (by rw [c_2]; decide)
      · skip
        refine lv_iconst (v := 1) hx hb dX7_isTaken_38 (by decide) ?_
        refine lv_goto (tgt := 61) hx hb dX7_isTaken_39 (by decide) ?_
        refine lv_istore_n (lv' := [(2, .int 1), (0, .ref m0), (1, .int p0)]) hx hb dX7_isTaken_61 rfl hl (by decide) rfl (fun ls hl => ?_)
        refine lv_aload_n hx hb dX7_isTaken_62 rfl (lv_at hl 1 rfl) ?_
        refine va_get (D := G.1) (ci := 10) (v := .ref m1) (C := RX7) (T := TX7) (N := 21) hx hb hts in_X7 hown hK hP 0 rfl rfl 1 (by decide) (hts _ k_fl_X7_7) (fun _ h9 => h9) rfl dX7_isTaken_63 ?_
        refine lv_iconst (v := 2) hx hb dX7_isTaken_66 (by decide) ?_
        refine lv_iload_n hx hb dX7_isTaken_67 rfl (lv_at hl 2 rfl) ?_
        refine lv_bipush (v := 12) hx hb dX7_isTaken_68 (by decide) ?_
        refine lv_icmp_ne (tgt := 81) hx hb dX7_isTaken_70 (by decide) (fun c_10 => ?_) (fun c_10 => ?_)
        · skip
          refine lv_aload_n hx hb dX7_isTaken_81 rfl (lv_at hl 1 rfl) ?_
          refine va_get (D := G.1) (ci := 10) (v := .ref m1) (C := RX7) (T := TX7) (N := 21) hx hb hts in_X7 hown hK hP 0 rfl rfl 1 (by decide) (hts _ k_fl_X7_7) (fun _ h9 => h9) rfl dX7_isTaken_82 ?_
          refine lv_iconst (v := 2) hx hb dX7_isTaken_85 (by decide) ?_
          refine gIald (k := 2) hx hb hK hP 1 0 rfl rfl (by decide) (gInL (by decide)) dX7_isTaken_86 ?_
          refine gIast (k := 2) hx hb hK hP hD hS 1 0 rfl rfl (by decide) (gInL (by decide)) dX7_isTaken_87 (fun H locs hP hD hS => ?_)
          replace hP : va_P G.1 vwCl [(m0, .inr (10, [.int rz, .ref m1, .ref m2, .ref m3, .int hf, .int hs, .ref m6, .int len, .int ec, .int ep, .int pos, .int bg, .int bad, .ref m13, .ref m14, .int plc, .int sta, .ref m17, .ref m18, .ref m19, .int shm])), (m1, .inl (G.2.1.1, 670, .inl (upd w 2 (w 2))))] H := hP
          replace hD : va_D A [(m0, .inr (10, [.int rz, .ref m1, .ref m2, .ref m3, .int hf, .int hs, .ref m6, .int len, .int ec, .int ep, .int pos, .int bg, .int bad, .ref m13, .ref m14, .int plc, .int sta, .ref m17, .ref m18, .ref m19, .int shm])), (m1, .inl (G.2.1.1, 670, .inl (upd w 2 (w 2))))] := hD
          refine lv_iload_n hx hb dX7_isTaken_88 rfl (lv_at hl 0 rfl) ?_
          have ef : (f_X7_isTaken w p0) = (1, (upd w 2 (w 2))) := ((if_neg c_1).trans ((if_pos c_2).trans (if_pos c_8)))
          exact gRetZ F hr hlocks hK hP hD hS rfl (by rw [ef]) (by rw [ef]) (Nat.le_of_ble_eq_true rfl) (Nat.le_of_ble_eq_true rfl) dX7_isTaken_89
        · exact absurd c_10 (by rw [c_2]; decide)
  · skip
    refine lv_aload_n hx hb dX7_isTaken_6 rfl (lv_at hl 0 rfl) ?_
    refine va_get (D := G.1) (ci := 10) (v := .ref m1) (C := RX7) (T := TX7) (N := 21) hx hb hts in_X7 hown hK hP 0 rfl rfl 1 (by decide) (hts _ k_fl_X7_7) (fun _ h9 => h9) rfl dX7_isTaken_7 ?_
    refine lv_iconst (v := 1) hx hb dX7_isTaken_10 (by decide) ?_
    refine gIald (k := 1) hx hb hK hP 1 0 rfl rfl (by decide) (gInL (by decide)) dX7_isTaken_11 ?_
    refine lv_if_ge (tgt := 19) hx hb dX7_isTaken_12 (by decide) (fun c_11 => ?_) (fun c_11 => ?_)
    · skip
      refine lv_iconst (v := 0) hx hb dX7_isTaken_19 (by decide) ?_
      refine lv_goto (tgt := 61) hx hb dX7_isTaken_20 (by decide) ?_
      refine lv_istore_n (lv' := [(2, .int 0), (0, .ref m0), (1, .int p0)]) hx hb dX7_isTaken_61 rfl hl (by decide) rfl (fun ls hl => ?_)
      refine lv_aload_n hx hb dX7_isTaken_62 rfl (lv_at hl 1 rfl) ?_
      refine va_get (D := G.1) (ci := 10) (v := .ref m1) (C := RX7) (T := TX7) (N := 21) hx hb hts in_X7 hown hK hP 0 rfl rfl 1 (by decide) (hts _ k_fl_X7_7) (fun _ h9 => h9) rfl dX7_isTaken_63 ?_
      refine lv_iconst (v := 2) hx hb dX7_isTaken_66 (by decide) ?_
      refine lv_iload_n hx hb dX7_isTaken_67 rfl (lv_at hl 2 rfl) ?_
      refine lv_bipush (v := 12) hx hb dX7_isTaken_68 (by decide) ?_
      refine lv_icmp_ne (tgt := 81) hx hb dX7_isTaken_70 (by decide) (fun c_12 => ?_) (fun c_12 => ?_)
      · skip
        refine lv_aload_n hx hb dX7_isTaken_81 rfl (lv_at hl 1 rfl) ?_
        refine va_get (D := G.1) (ci := 10) (v := .ref m1) (C := RX7) (T := TX7) (N := 21) hx hb hts in_X7 hown hK hP 0 rfl rfl 1 (by decide) (hts _ k_fl_X7_7) (fun _ h9 => h9) rfl dX7_isTaken_82 ?_
        refine lv_iconst (v := 2) hx hb dX7_isTaken_85 (by decide) ?_
        refine gIald (k := 2) hx hb hK hP 1 0 rfl rfl (by decide) (gInL (by decide)) dX7_isTaken_86 ?_
        refine gIast (k := 2) hx hb hK hP hD hS 1 0 rfl rfl (by decide) (gInL (by decide)) dX7_isTaken_87 (fun H locs hP hD hS => ?_)
        replace hP : va_P G.1 vwCl [(m0, .inr (10, [.int rz, .ref m1, .ref m2, .ref m3, .int hf, .int hs, .ref m6, .int len, .int ec, .int ep, .int pos, .int bg, .int bad, .ref m13, .ref m14, .int plc, .int sta, .ref m17, .ref m18, .ref m19, .int shm])), (m1, .inl (G.2.1.1, 670, .inl (upd w 2 (w 2))))] H := hP
        replace hD : va_D A [(m0, .inr (10, [.int rz, .ref m1, .ref m2, .ref m3, .int hf, .int hs, .ref m6, .int len, .int ec, .int ep, .int pos, .int bg, .int bad, .ref m13, .ref m14, .int plc, .int sta, .ref m17, .ref m18, .ref m19, .int shm])), (m1, .inl (G.2.1.1, 670, .inl (upd w 2 (w 2))))] := hD
        refine lv_iload_n hx hb dX7_isTaken_88 rfl (lv_at hl 0 rfl) ?_
        have ef : (f_X7_isTaken w p0) = (0, (upd w 2 (w 2))) := ((if_pos c_1).trans (if_pos c_11))
        exact gRetZ F hr hlocks hK hP hD hS rfl (by rw [ef]) (by rw [ef]) (Nat.le_of_ble_eq_true rfl) (Nat.le_of_ble_eq_true rfl) dX7_isTaken_89
      · exact absurd c_12 (by rw [c_1]; decide)
    · skip
      refine lv_iconst (v := 1) hx hb dX7_isTaken_15 (by decide) ?_
      refine lv_goto (tgt := 61) hx hb dX7_isTaken_16 (by decide) ?_
      refine lv_istore_n (lv' := [(2, .int 1), (0, .ref m0), (1, .int p0)]) hx hb dX7_isTaken_61 rfl hl (by decide) rfl (fun ls hl => ?_)
      refine lv_aload_n hx hb dX7_isTaken_62 rfl (lv_at hl 1 rfl) ?_
      refine va_get (D := G.1) (ci := 10) (v := .ref m1) (C := RX7) (T := TX7) (N := 21) hx hb hts in_X7 hown hK hP 0 rfl rfl 1 (by decide) (hts _ k_fl_X7_7) (fun _ h9 => h9) rfl dX7_isTaken_63 ?_
      refine lv_iconst (v := 2) hx hb dX7_isTaken_66 (by decide) ?_
      refine lv_iload_n hx hb dX7_isTaken_67 rfl (lv_at hl 2 rfl) ?_
      refine lv_bipush (v := 12) hx hb dX7_isTaken_68 (by decide) ?_
      refine lv_icmp_ne (tgt := 81) hx hb dX7_isTaken_70 (by decide) (fun c_13 => ?_) (fun c_13 => ?_)
      · skip
        refine lv_aload_n hx hb dX7_isTaken_81 rfl (lv_at hl 1 rfl) ?_
        refine va_get (D := G.1) (ci := 10) (v := .ref m1) (C := RX7) (T := TX7) (N := 21) hx hb hts in_X7 hown hK hP 0 rfl rfl 1 (by decide) (hts _ k_fl_X7_7) (fun _ h9 => h9) rfl dX7_isTaken_82 ?_
        refine lv_iconst (v := 2) hx hb dX7_isTaken_85 (by decide) ?_
        refine gIald (k := 2) hx hb hK hP 1 0 rfl rfl (by decide) (gInL (by decide)) dX7_isTaken_86 ?_
        refine gIast (k := 2) hx hb hK hP hD hS 1 0 rfl rfl (by decide) (gInL (by decide)) dX7_isTaken_87 (fun H locs hP hD hS => ?_)
        replace hP : va_P G.1 vwCl [(m0, .inr (10, [.int rz, .ref m1, .ref m2, .ref m3, .int hf, .int hs, .ref m6, .int len, .int ec, .int ep, .int pos, .int bg, .int bad, .ref m13, .ref m14, .int plc, .int sta, .ref m17, .ref m18, .ref m19, .int shm])), (m1, .inl (G.2.1.1, 670, .inl (upd w 2 (w 2))))] H := hP
        replace hD : va_D A [(m0, .inr (10, [.int rz, .ref m1, .ref m2, .ref m3, .int hf, .int hs, .ref m6, .int len, .int ec, .int ep, .int pos, .int bg, .int bad, .ref m13, .ref m14, .int plc, .int sta, .ref m17, .ref m18, .ref m19, .int shm])), (m1, .inl (G.2.1.1, 670, .inl (upd w 2 (w 2))))] := hD
        refine lv_iload_n hx hb dX7_isTaken_88 rfl (lv_at hl 0 rfl) ?_
        have ef : (f_X7_isTaken w p0) = (1, (upd w 2 (w 2))) := ((if_pos c_1).trans (if_neg c_11))
        exact gRetZ F hr hlocks hK hP hD hS rfl (by rw [ef]) (by rw [ef]) (Nat.le_of_ble_eq_true rfl) (Nat.le_of_ble_eq_true rfl) dX7_isTaken_89
      · exact absurd c_13 (by rw [c_1]; decide)
theorem okV_X7_isTaken : gOkV yX7_isTaken cX7_isTaken 3 (some .boolean) 1 := ⟨⟨k_im_X7_isTaken, k_se_X7_isTaken, k_in_X7, k_cd_X7_isTaken⟩, by decide, by decide, by decide +kernel⟩
def f_X7_goesOut (w : Nat → Int32) (ring : Nat → Int32) : Int32 × (Nat → Int32) × (Nat → Int32) :=
  if (w 13) = 64 then
    (0, (upd w 4 3), ring)
  else
    (1, (f_X7_passes (upd (upd w (Int32.toNatClampNeg (94 + (w 13))) (w 1)) 13 (((upd w (Int32.toNatClampNeg (94 + (w 13))) (w 1)) 13) + 1)) ring 1).1, (f_X7_passes (upd (upd w (Int32.toNatClampNeg (94 + (w 13))) (w 1)) 13 (((upd w (Int32.toNatClampNeg (94 + (w 13))) (w 1)) 13) + 1)) ring 1).2)
set_option maxRecDepth 100000 in
set_option maxHeartbeats 4000000 in
theorem c_X7_goesOut (l : Launch) (G : gG) (m0 : Nat) (m1 : Nat) (m2 : Nat) (m3 : Nat) (m6 : Nat) (m13 : Nat) (m14 : Nat) (m17 : Nat) (m18 : Nat) (m19 : Nat) (rz : Int32) (hf : Int32) (hs : Int32) (len : Int32) (ec : Int32) (ep : Int32) (pos : Int32) (bg : Int32) (bad : Int32) (plc : Int32) (sta : Int32) (shm : Int32) (w : Nat → Int32) (ring : Nat → Int32) (h13 : 0 ≤ (w 13).toInt ∧ (w 13).toInt ≤ 64) (hT : RT w 2) : gM l G yX7_goesOut cX7_goesOut 1 (some .boolean) { frames := 5, cells := 0, slots := 0, locals := 107 } [.ref m0] [(m0, .inr (10, [.int rz, .ref m1, .ref m2, .ref m3, .int hf, .int hs, .ref m6, .int len, .int ec, .int ep, .int pos, .int bg, .int bad, .ref m13, .ref m14, .int plc, .int sta, .ref m17, .ref m18, .ref m19, .int shm])), (m1, .inl (G.2.1.1, 670, .inl w)), (m18, .inl (G.2.1.1, 640, .inl ring))] (some (.int ((f_X7_goesOut w ring).1))) [(m0, .inr (10, [.int rz, .ref m1, .ref m2, .ref m3, .int hf, .int hs, .ref m6, .int len, .int ec, .int ep, .int pos, .int bg, .int bad, .ref m13, .ref m14, .int plc, .int sta, .ref m17, .ref m18, .ref m19, .int shm])), (m1, .inl (G.2.1.1, 670, .inl ((f_X7_goesOut w ring).2.1))), (m18, .inl (G.2.1.1, 640, .inl ((f_X7_goesOut w ring).2.2)))] 0 0 := by
  refine gBegin (by decide +kernel) (Nat.le_of_ble_eq_true rfl) (fun p e s m args below meth c A F hr hlocks hname hN hK hP hD hA hS ls hl => ?_)
  obtain ⟨hx, hb, hml, hown, hts⟩ := id F
  replace hP : va_P G.1 vwCl [(m0, .inr (10, [.int rz, .ref m1, .ref m2, .ref m3, .int hf, .int hs, .ref m6, .int len, .int ec, .int ep, .int pos, .int bg, .int bad, .ref m13, .ref m14, .int plc, .int sta, .ref m17, .ref m18, .ref m19, .int shm])), (m1, .inl (G.2.1.1, 670, .inl w)), (m18, .inl (G.2.1.1, 640, .inl ring))] s.heap := hP
  replace hl : lv_has ls 1 [(0, .ref m0)] := hl
  refine lv_aload_n hx hb dX7_goesOut_0 rfl (lv_at hl 0 rfl) ?_
  refine va_get (D := G.1) (ci := 10) (v := .ref m1) (C := RX7) (T := TX7) (N := 21) hx hb hts in_X7 hown hK hP 0 rfl rfl 1 (by decide) (hts _ k_fl_X7_7) (fun _ h9 => h9) rfl dX7_goesOut_1 ?_
  refine lv_bipush (v := 13) hx hb dX7_goesOut_4 (by decide) ?_
  refine gIald (k := 13) hx hb hK hP 1 0 rfl rfl (by decide) (gInL (by decide)) dX7_goesOut_6 ?_
  refine lv_bipush (v := 64) hx hb dX7_goesOut_7 (by decide) ?_
  refine lv_icmp_ne (tgt := 21) hx hb dX7_goesOut_9 (by decide) (fun c_1 => ?_) (fun c_1 => ?_)
  · skip
    refine lv_aload_n hx hb dX7_goesOut_21 rfl (lv_at hl 0 rfl) ?_
    refine va_get (D := G.1) (ci := 10) (v := .ref m1) (C := RX7) (T := TX7) (N := 21) hx hb hts in_X7 hown hK hP 0 rfl rfl 1 (by decide) (hts _ k_fl_X7_7) (fun _ h9 => h9) rfl dX7_goesOut_22 ?_
    refine lv_bipush (v := 94) hx hb dX7_goesOut_25 (by decide) ?_
    refine lv_aload_n hx hb dX7_goesOut_27 rfl (lv_at hl 0 rfl) ?_
    refine va_get (D := G.1) (ci := 10) (v := .ref m1) (C := RX7) (T := TX7) (N := 21) hx hb hts in_X7 hown hK hP 0 rfl rfl 1 (by decide) (hts _ k_fl_X7_7) (fun _ h9 => h9) rfl dX7_goesOut_28 ?_
    refine lv_bipush (v := 13) hx hb dX7_goesOut_31 (by decide) ?_
    refine gIald (k := 13) hx hb hK hP 1 0 rfl rfl (by decide) (gInL (by decide)) dX7_goesOut_33 ?_
    refine lv_iadd hx hb dX7_goesOut_34 ?_
    refine lv_aload_n hx hb dX7_goesOut_35 rfl (lv_at hl 0 rfl) ?_
    refine va_get (D := G.1) (ci := 10) (v := .ref m1) (C := RX7) (T := TX7) (N := 21) hx hb hts in_X7 hown hK hP 0 rfl rfl 1 (by decide) (hts _ k_fl_X7_7) (fun _ h9 => h9) rfl dX7_goesOut_36 ?_
    refine lv_iconst (v := 1) hx hb dX7_goesOut_39 (by decide) ?_
    refine gIald (k := 1) hx hb hK hP 1 0 rfl rfl (by decide) (gInL (by decide)) dX7_goesOut_40 ?_
    refine va_iast hx hb hK hP hD hS 1 0 rfl rfl (by have z0 : (94 : Int32).toInt = 94 := (by decide); (try have z2 := gI_add (x := 94) (y := (w 13)) (by omega) (by omega)); (try rw [vp_in_iff]); omega) dX7_goesOut_41 (fun H locs hP hD hS => ?_)
    replace hP : va_P G.1 vwCl [(m0, .inr (10, [.int rz, .ref m1, .ref m2, .ref m3, .int hf, .int hs, .ref m6, .int len, .int ec, .int ep, .int pos, .int bg, .int bad, .ref m13, .ref m14, .int plc, .int sta, .ref m17, .ref m18, .ref m19, .int shm])), (m1, .inl (G.2.1.1, 670, .inl (upd w (Int32.toNatClampNeg (94 + (w 13))) (w 1)))), (m18, .inl (G.2.1.1, 640, .inl ring))] H := hP
    replace hD : va_D A [(m0, .inr (10, [.int rz, .ref m1, .ref m2, .ref m3, .int hf, .int hs, .ref m6, .int len, .int ec, .int ep, .int pos, .int bg, .int bad, .ref m13, .ref m14, .int plc, .int sta, .ref m17, .ref m18, .ref m19, .int shm])), (m1, .inl (G.2.1.1, 670, .inl (upd w (Int32.toNatClampNeg (94 + (w 13))) (w 1)))), (m18, .inl (G.2.1.1, 640, .inl ring))] := hD
    refine lv_aload_n hx hb dX7_goesOut_42 rfl (lv_at hl 0 rfl) ?_
    refine va_get (D := G.1) (ci := 10) (v := .ref m1) (C := RX7) (T := TX7) (N := 21) hx hb hts in_X7 hown hK hP 0 rfl rfl 1 (by decide) (hts _ k_fl_X7_7) (fun _ h9 => h9) rfl dX7_goesOut_43 ?_
    refine lv_bipush (v := 13) hx hb dX7_goesOut_46 (by decide) ?_
    refine lv_dup2_11 hx hb dX7_goesOut_48 rfl rfl ?_
    refine gIald (k := 13) hx hb hK hP 1 0 rfl rfl (by decide) (gInL (by decide)) dX7_goesOut_49 ?_
    refine lv_iconst (v := 1) hx hb dX7_goesOut_50 (by decide) ?_
    refine lv_iadd hx hb dX7_goesOut_51 ?_
    refine gIast (k := 13) hx hb hK hP hD hS 1 0 rfl rfl (by decide) (gInL (by decide)) dX7_goesOut_52 (fun H locs hP hD hS => ?_)
    replace hP : va_P G.1 vwCl [(m0, .inr (10, [.int rz, .ref m1, .ref m2, .ref m3, .int hf, .int hs, .ref m6, .int len, .int ec, .int ep, .int pos, .int bg, .int bad, .ref m13, .ref m14, .int plc, .int sta, .ref m17, .ref m18, .ref m19, .int shm])), (m1, .inl (G.2.1.1, 670, .inl (upd (upd w (Int32.toNatClampNeg (94 + (w 13))) (w 1)) 13 (((upd w (Int32.toNatClampNeg (94 + (w 13))) (w 1)) 13) + 1)))), (m18, .inl (G.2.1.1, 640, .inl ring))] H := hP
    replace hD : va_D A [(m0, .inr (10, [.int rz, .ref m1, .ref m2, .ref m3, .int hf, .int hs, .ref m6, .int len, .int ec, .int ep, .int pos, .int bg, .int bad, .ref m13, .ref m14, .int plc, .int sta, .ref m17, .ref m18, .ref m19, .int shm])), (m1, .inl (G.2.1.1, 670, .inl (upd (upd w (Int32.toNatClampNeg (94 + (w 13))) (w 1)) 13 (((upd w (Int32.toNatClampNeg (94 + (w 13))) (w 1)) 13) + 1)))), (m18, .inl (G.2.1.1, 640, .inl ring))] := hD
    refine lv_aload_n hx hb dX7_goesOut_53 rfl (lv_at hl 0 rfl) ?_
    refine lv_iconst (v := 1) hx hb dX7_goesOut_54 (by decide) ?_
    refine gV (As := [.int 1]) (rest := []) (wr := []) (ws' := [(m0, .inr (10, [.int rz, .ref m1, .ref m2, .ref m3, .int hf, .int hs, .ref m6, .int len, .int ec, .int ep, .int pos, .int bg, .int bad, .ref m13, .ref m14, .int plc, .int sta, .ref m17, .ref m18, .ref m19, .int shm])), (m1, .inl (G.2.1.1, 670, .inl ((f_X7_passes (upd (upd w (Int32.toNatClampNeg (94 + (w 13))) (w 1)) 13 (((upd w (Int32.toNatClampNeg (94 + (w 13))) (w 1)) 13) + 1)) ring 1).1))), (m18, .inl (G.2.1.1, 640, .inl ((f_X7_passes (upd (upd w (Int32.toNatClampNeg (94 + (w 13))) (w 1)) 13 (((upd w (Int32.toNatClampNeg (94 + (w 13))) (w 1)) 13) + 1)) ring 1).2)))]) F (c_X7_passes l G m0 m1 m2 m3 m6 m13 m14 m17 m18 m19 rz hf hs len ec ep pos bg bad plc sta shm (upd (upd w (Int32.toNatClampNeg (94 + (w 13))) (w 1)) 13 (((upd w (Int32.toNatClampNeg (94 + (w 13))) (w 1)) 13) + 1)) ring 1 (show RT _ 2 from RT_upd (RT_upd hT (by have e94 : (94 : Int32).toInt = 94 := (by decide); have e1 := gI_add (x := 94) (y := w 13) (by omega) (by omega); have e2 := gI_clamp (x := 94 + w 13) (by omega); omega)) (by decide))) okV_X7_passes k_ml_X7_264 rfl rfl ⟨Nat.le_of_ble_eq_true rfl, Nat.le_of_ble_eq_true rfl⟩ hN hK hP hD hS hA [0, 1, 2] [] [0, 1, 2] (by decide) rfl rfl (by decide) (by decide) (by decide) rfl (q0 := 0) rfl rfl rfl rfl hl.1 (Nat.le_of_ble_eq_true rfl) dX7_goesOut_55 ⟨Nat.le_refl _, Nat.le_refl _⟩ (fun H locs hP hD hS => ?_)
    refine lv_iconst (v := 1) hx hb dX7_goesOut_58 (by decide) ?_
    have ef : (f_X7_goesOut w ring) = (1, (f_X7_passes (upd (upd w (Int32.toNatClampNeg (94 + (w 13))) (w 1)) 13 (((upd w (Int32.toNatClampNeg (94 + (w 13))) (w 1)) 13) + 1)) ring 1).1, (f_X7_passes (upd (upd w (Int32.toNatClampNeg (94 + (w 13))) (w 1)) 13 (((upd w (Int32.toNatClampNeg (94 + (w 13))) (w 1)) 13) + 1)) ring 1).2) := (if_neg c_1)
    exact gRetZ F hr hlocks hK hP hD hS rfl (by rw [ef]) (by rw [ef]) (Nat.le_of_ble_eq_true rfl) (Nat.le_of_ble_eq_true rfl) dX7_goesOut_59
  · skip
    refine lv_aload_n hx hb dX7_goesOut_12 rfl (lv_at hl 0 rfl) ?_
    refine va_get (D := G.1) (ci := 10) (v := .ref m1) (C := RX7) (T := TX7) (N := 21) hx hb hts in_X7 hown hK hP 0 rfl rfl 1 (by decide) (hts _ k_fl_X7_7) (fun _ h9 => h9) rfl dX7_goesOut_13 ?_
    refine lv_iconst (v := 4) hx hb dX7_goesOut_16 (by decide) ?_
    refine lv_iconst (v := 3) hx hb dX7_goesOut_17 (by decide) ?_
    refine gIast (k := 4) hx hb hK hP hD hS 1 0 rfl rfl (by decide) (gInL (by decide)) dX7_goesOut_18 (fun H locs hP hD hS => ?_)
    replace hP : va_P G.1 vwCl [(m0, .inr (10, [.int rz, .ref m1, .ref m2, .ref m3, .int hf, .int hs, .ref m6, .int len, .int ec, .int ep, .int pos, .int bg, .int bad, .ref m13, .ref m14, .int plc, .int sta, .ref m17, .ref m18, .ref m19, .int shm])), (m1, .inl (G.2.1.1, 670, .inl (upd w 4 3))), (m18, .inl (G.2.1.1, 640, .inl ring))] H := hP
    replace hD : va_D A [(m0, .inr (10, [.int rz, .ref m1, .ref m2, .ref m3, .int hf, .int hs, .ref m6, .int len, .int ec, .int ep, .int pos, .int bg, .int bad, .ref m13, .ref m14, .int plc, .int sta, .ref m17, .ref m18, .ref m19, .int shm])), (m1, .inl (G.2.1.1, 670, .inl (upd w 4 3))), (m18, .inl (G.2.1.1, 640, .inl ring))] := hD
    refine lv_iconst (v := 0) hx hb dX7_goesOut_19 (by decide) ?_
    have ef : (f_X7_goesOut w ring) = (0, (upd w 4 3), ring) := (if_pos c_1)
    exact gRetZ F hr hlocks hK hP hD hS rfl (by rw [ef]) (by rw [ef]) (Nat.le_of_ble_eq_true rfl) (Nat.le_of_ble_eq_true rfl) dX7_goesOut_20
theorem okV_X7_goesOut : gOkV yX7_goesOut cX7_goesOut 1 (some .boolean) 0 := ⟨⟨k_im_X7_goesOut, k_se_X7_goesOut, k_in_X7, k_cd_X7_goesOut⟩, by decide, by decide, by decide +kernel⟩
