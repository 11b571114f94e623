def f_X6_cycleOf (p0 : Int32) : Int32 :=
  (p0 &&& 31)
set_option maxRecDepth 100000 in
set_option maxHeartbeats 4000000 in
theorem c_X6_cycleOf (l : Launch) (G : gG) (p0 : Int32) : gM l G yX6_cycleOf cX6_cycleOf 1 (some .int) { frames := 0, cells := 0, slots := 0, locals := 0 } [.int p0] [] (some (.int (f_X6_cycleOf p0))) [] 0 0 := by
  refine gBegin (by decide +kernel) (Nat.le_of_ble_eq_true rfl) (fun p e s m args below meth c A F hr hlocks hname hN hK hP hD hA hS ls hl => ?_)
  obtain ⟨hx, hb, hml, hown, hts⟩ := id F
  replace hP : va_P G.1 vwCl [] s.heap := hP
  replace hl : lv_has ls 1 [(0, .int p0)] := hl
  refine lv_iload_n hx hb dX6_cycleOf_0 rfl (lv_at hl 0 rfl) ?_
  refine lv_bipush (v := 31) hx hb dX6_cycleOf_1 (by decide) ?_
  refine lv_iand hx hb dX6_cycleOf_3 ?_
  exact gRetI F hr hlocks hK hP hD hS rfl rfl (Nat.le_of_ble_eq_true rfl) (Nat.le_of_ble_eq_true rfl) dX6_cycleOf_4
theorem okS_X6_cycleOf : gOkS yX6_cycleOf cX6_cycleOf 1 (some .int) 1 := ⟨⟨k_st_X6_cycleOf, k_in_X6, k_cd_X6_cycleOf⟩, by decide, by decide, by decide +kernel⟩
def f_X6_locationOf (p0 : Int32) (p1 : Int32) : Int32 :=
  ((32 * p0) + p1)
set_option maxRecDepth 100000 in
set_option maxHeartbeats 4000000 in
theorem c_X6_locationOf (l : Launch) (G : gG) (p0 : Int32) (p1 : Int32) : gM l G yX6_locationOf cX6_locationOf 2 (some .int) { frames := 0, cells := 0, slots := 0, locals := 0 } [.int p0, .int p1] [] (some (.int (f_X6_locationOf p0 p1))) [] 0 0 := by
  refine gBegin (by decide +kernel) (Nat.le_of_ble_eq_true rfl) (fun p e s m args below meth c A F hr hlocks hname hN hK hP hD hA hS ls hl => ?_)
  obtain ⟨hx, hb, hml, hown, hts⟩ := id F
  replace hP : va_P G.1 vwCl [] s.heap := hP
  replace hl : lv_has ls 2 [(0, .int p0), (1, .int p1)] := hl
  refine lv_bipush (v := 32) hx hb dX6_locationOf_0 (by decide) ?_
  refine lv_iload_n hx hb dX6_locationOf_2 rfl (lv_at hl 0 rfl) ?_
  refine lv_imul hx hb dX6_locationOf_3 ?_
  refine lv_iload_n hx hb dX6_locationOf_4 rfl (lv_at hl 1 rfl) ?_
  refine lv_iadd hx hb dX6_locationOf_5 ?_
  exact gRetI F hr hlocks hK hP hD hS rfl rfl (Nat.le_of_ble_eq_true rfl) (Nat.le_of_ble_eq_true rfl) dX6_locationOf_6
theorem okS_X6_locationOf : gOkS yX6_locationOf cX6_locationOf 2 (some .int) 2 := ⟨⟨k_st_X6_locationOf, k_in_X6, k_cd_X6_locationOf⟩, by decide, by decide, by decide +kernel⟩
def f_X6_waitingUntil (p0 : Int32) (p1 : Int32) : Int32 :=
  ((p0 - p1) &&& 31)
set_option maxRecDepth 100000 in
set_option maxHeartbeats 4000000 in
theorem c_X6_waitingUntil (l : Launch) (G : gG) (p0 : Int32) (p1 : Int32) : gM l G yX6_waitingUntil cX6_waitingUntil 2 (some .int) { frames := 0, cells := 0, slots := 0, locals := 0 } [.int p0, .int p1] [] (some (.int (f_X6_waitingUntil p0 p1))) [] 0 0 := by
  refine gBegin (by decide +kernel) (Nat.le_of_ble_eq_true rfl) (fun p e s m args below meth c A F hr hlocks hname hN hK hP hD hA hS ls hl => ?_)
  obtain ⟨hx, hb, hml, hown, hts⟩ := id F
  replace hP : va_P G.1 vwCl [] s.heap := hP
  replace hl : lv_has ls 2 [(0, .int p0), (1, .int p1)] := hl
  refine lv_iload_n hx hb dX6_waitingUntil_0 rfl (lv_at hl 0 rfl) ?_
  refine lv_iload_n hx hb dX6_waitingUntil_1 rfl (lv_at hl 1 rfl) ?_
  refine lv_isub hx hb dX6_waitingUntil_2 ?_
  refine lv_bipush (v := 31) hx hb dX6_waitingUntil_3 (by decide) ?_
  refine lv_iand hx hb dX6_waitingUntil_5 ?_
  exact gRetI F hr hlocks hK hP hD hS rfl rfl (Nat.le_of_ble_eq_true rfl) (Nat.le_of_ble_eq_true rfl) dX6_waitingUntil_6
theorem okS_X6_waitingUntil : gOkS yX6_waitingUntil cX6_waitingUntil 2 (some .int) 2 := ⟨⟨k_st_X6_waitingUntil, k_in_X6, k_cd_X6_waitingUntil⟩, by decide, by decide, by decide +kernel⟩
def f_X6_delayOf (p0 : Int32) : Int32 :=
  (640000000 + (19200 * (p0 - 400)))
set_option maxRecDepth 100000 in
set_option maxHeartbeats 4000000 in
theorem c_X6_delayOf (l : Launch) (G : gG) (p0 : Int32) : gM l G yX6_delayOf cX6_delayOf 1 (some .int) { frames := 0, cells := 0, slots := 0, locals := 0 } [.int p0] [] (some (.int (f_X6_delayOf p0))) [] 0 0 := by
  refine gBegin (by decide +kernel) (Nat.le_of_ble_eq_true rfl) (fun p e s m args below meth c A F hr hlocks hname hN hK hP hD hA hS ls hl => ?_)
  obtain ⟨hx, hb, hml, hown, hts⟩ := id F
  replace hP : va_P G.1 vwCl [] s.heap := hP
  replace hl : lv_has ls 1 [(0, .int p0)] := hl
  refine lv_ldcw (v := 640000000) hx hb hown (hts _ k_co_X6_342) dX6_delayOf_0 ?_
  refine lv_sipush (v := 19200) hx hb dX6_delayOf_3 (by decide) ?_
  refine lv_iload_n hx hb dX6_delayOf_6 rfl (lv_at hl 0 rfl) ?_
  refine lv_sipush (v := 400) hx hb dX6_delayOf_7 (by decide) ?_
  refine lv_isub hx hb dX6_delayOf_10 ?_
  refine lv_imul hx hb dX6_delayOf_11 ?_
  refine lv_iadd hx hb dX6_delayOf_12 ?_
  exact gRetI F hr hlocks hK hP hD hS rfl rfl (Nat.le_of_ble_eq_true rfl) (Nat.le_of_ble_eq_true rfl) dX6_delayOf_13
theorem okS_X6_delayOf : gOkS yX6_delayOf cX6_delayOf 1 (some .int) 1 := ⟨⟨k_st_X6_delayOf, k_in_X6, k_cd_X6_delayOf⟩, by decide, by decide, by decide +kernel⟩
def f_X6_wrap (p0 : Int64) : Int32 :=
  (Int64.toInt32 ((p0 <<< ((Int32.toInt64 44) &&& 63)) >>> ((Int32.toInt64 44) &&& 63)))
set_option maxRecDepth 100000 in
set_option maxHeartbeats 4000000 in
theorem c_X6_wrap (l : Launch) (G : gG) (p0 : Int64) : gM l G yX6_wrap cX6_wrap 3 (some .int) { frames := 0, cells := 0, slots := 0, locals := 0 } [.long p0] [] (some (.int (f_X6_wrap p0))) [] 0 0 := by
  refine gBegin (by decide +kernel) (Nat.le_of_ble_eq_true rfl) (fun p e s m args below meth c A F hr hlocks hname hN hK hP hD hA hS ls hl => ?_)
  obtain ⟨hx, hb, hml, hown, hts⟩ := id F
  replace hP : va_P G.1 vwCl [] s.heap := hP
  replace hl : lv_has ls 3 [(0, .long p0)] := hl
  refine lv_bipush (v := 44) hx hb dX6_wrap_0 (by decide) ?_
  refine lv_istore_n (lv' := [(2, .int 44), (0, .long p0)]) hx hb dX6_wrap_2 rfl hl (by decide) rfl (fun ls hl => ?_)
  refine lv_lload_n hx hb dX6_wrap_3 rfl (lv_at hl 1 rfl) ?_
  refine lv_iload_n hx hb dX6_wrap_4 rfl (lv_at hl 0 rfl) ?_
  refine lv_lshl (v := (p0 <<< ((Int32.toInt64 44) &&& 63))) hx hb dX6_wrap_5 rfl ?_
  refine lv_iload_n hx hb dX6_wrap_6 rfl (lv_at hl 0 rfl) ?_
  refine lv_lshr (v := ((p0 <<< ((Int32.toInt64 44) &&& 63)) >>> ((Int32.toInt64 44) &&& 63))) hx hb dX6_wrap_7 rfl ?_
  refine lv_l2i (v := (Int64.toInt32 ((p0 <<< ((Int32.toInt64 44) &&& 63)) >>> ((Int32.toInt64 44) &&& 63)))) hx hb dX6_wrap_8 rfl ?_
  exact gRetI F hr hlocks hK hP hD hS rfl rfl (Nat.le_of_ble_eq_true rfl) (Nat.le_of_ble_eq_true rfl) dX6_wrap_9
theorem okS_X6_wrap : gOkS yX6_wrap cX6_wrap 3 (some .int) 1 := ⟨⟨k_st_X6_wrap, k_in_X6, k_cd_X6_wrap⟩, by decide, by decide, by decide +kernel⟩
def f_X6_mismatchOf (p0 : Int32) (p1 : Int32) : Int32 :=
  ((f_X6_delayOf p0) - (640 * p1))
set_option maxRecDepth 100000 in
set_option maxHeartbeats 4000000 in
theorem c_X6_mismatchOf (l : Launch) (G : gG) (p0 : Int32) (p1 : Int32) : gM l G yX6_mismatchOf cX6_mismatchOf 2 (some .int) { frames := 1, cells := 0, slots := 0, locals := 20 } [.int p0, .int p1] [] (some (.int (f_X6_mismatchOf p0 p1))) [] 0 0 := by
  refine gBegin (by decide +kernel) (Nat.le_of_ble_eq_true rfl) (fun p e s m args below meth c A F hr hlocks hname hN hK hP hD hA hS ls hl => ?_)
  obtain ⟨hx, hb, hml, hown, hts⟩ := id F
  replace hP : va_P G.1 vwCl [] s.heap := hP
  replace hl : lv_has ls 2 [(0, .int p0), (1, .int p1)] := hl
  refine lv_iload_n hx hb dX6_mismatchOf_0 rfl (lv_at hl 0 rfl) ?_
  refine gS (As := [.int p0]) (rest := []) (wr := []) (ws' := []) F (c_X6_delayOf l G p0) okS_X6_delayOf k_ml_X6_343 rfl rfl ⟨Nat.le_of_ble_eq_true rfl, Nat.le_of_ble_eq_true rfl⟩ hN hK hP hD hS hA [] [] [] (by decide) rfl rfl (by decide) (by decide) (by decide) rfl rfl rfl hl.1 (Nat.le_of_ble_eq_true rfl) dX6_mismatchOf_1 ⟨Nat.le_refl _, Nat.le_refl _⟩ (fun H locs hP hD hS => ?_)
  refine lv_sipush (v := 640) hx hb dX6_mismatchOf_4 (by decide) ?_
  refine lv_iload_n hx hb dX6_mismatchOf_7 rfl (lv_at hl 1 rfl) ?_
  refine lv_imul hx hb dX6_mismatchOf_8 ?_
  refine lv_isub hx hb dX6_mismatchOf_9 ?_
  exact gRetI F hr hlocks hK hP hD hS rfl rfl (Nat.le_of_ble_eq_true rfl) (Nat.le_of_ble_eq_true rfl) dX6_mismatchOf_10
theorem okS_X6_mismatchOf : gOkS yX6_mismatchOf cX6_mismatchOf 2 (some .int) 2 := ⟨⟨k_st_X6_mismatchOf, k_in_X6, k_cd_X6_mismatchOf⟩, by decide, by decide, by decide +kernel⟩
def f_X3_opcode (p0 : Int32) : Int32 :=
  (p0 &&& 15)
set_option maxRecDepth 100000 in
set_option maxHeartbeats 4000000 in
theorem c_X3_opcode (l : Launch) (G : gG) (p0 : Int32) : gM l G yX3_opcode cX3_opcode 1 (some .int) { frames := 0, cells := 0, slots := 0, locals := 0 } [.int p0] [] (some (.int (f_X3_opcode p0))) [] 0 0 := by
  refine gBegin (by decide +kernel) (Nat.le_of_ble_eq_true rfl) (fun p e s m args below meth c A F hr hlocks hname hN hK hP hD hA hS ls hl => ?_)
  obtain ⟨hx, hb, hml, hown, hts⟩ := id F
  replace hP : va_P G.1 vwCl [] s.heap := hP
  replace hl : lv_has ls 1 [(0, .int p0)] := hl
  refine lv_iload_n hx hb dX3_opcode_0 rfl (lv_at hl 0 rfl) ?_
  refine lv_bipush (v := 15) hx hb dX3_opcode_1 (by decide) ?_
  refine lv_iand hx hb dX3_opcode_3 ?_
  exact gRetI F hr hlocks hK hP hD hS rfl rfl (Nat.le_of_ble_eq_true rfl) (Nat.le_of_ble_eq_true rfl) dX3_opcode_4
theorem okS_X3_opcode : gOkS yX3_opcode cX3_opcode 1 (some .int) 1 := ⟨⟨k_st_X3_opcode, k_in_X3, k_cd_X3_opcode⟩, by decide, by decide, by decide +kernel⟩
def f_X3_operand (p0 : Int32) : Int32 :=
  (f_X6_locationOf (((p0 >>> ((4 : Int32) &&& 31)) : Int32) &&& 7) (((p0 >>> ((7 : Int32) &&& 31)) : Int32) &&& 31))
set_option maxRecDepth 100000 in
set_option maxHeartbeats 4000000 in
theorem c_X3_operand (l : Launch) (G : gG) (p0 : Int32) : gM l G yX3_operand cX3_operand 1 (some .int) { frames := 1, cells := 0, slots := 0, locals := 21 } [.int p0] [] (some (.int (f_X3_operand p0))) [] 0 0 := by
  refine gBegin (by decide +kernel) (Nat.le_of_ble_eq_true rfl) (fun p e s m args below meth c A F hr hlocks hname hN hK hP hD hA hS ls hl => ?_)
  obtain ⟨hx, hb, hml, hown, hts⟩ := id F
  replace hP : va_P G.1 vwCl [] s.heap := hP
  replace hl : lv_has ls 1 [(0, .int p0)] := hl
  refine lv_iload_n hx hb dX3_operand_0 rfl (lv_at hl 0 rfl) ?_
  refine lv_iconst (v := 4) hx hb dX3_operand_1 (by decide) ?_
  refine lv_ishr hx hb dX3_operand_2 ?_
  refine lv_bipush (v := 7) hx hb dX3_operand_3 (by decide) ?_
  refine lv_iand hx hb dX3_operand_5 ?_
  refine lv_iload_n hx hb dX3_operand_6 rfl (lv_at hl 0 rfl) ?_
  refine lv_bipush (v := 7) hx hb dX3_operand_7 (by decide) ?_
  refine lv_ishr hx hb dX3_operand_9 ?_
  refine lv_bipush (v := 31) hx hb dX3_operand_10 (by decide) ?_
  refine lv_iand hx hb dX3_operand_12 ?_
  refine gSN (As := [.int (((p0 >>> ((4 : Int32) &&& 31)) : Int32) &&& 7), .int (((p0 >>> ((7 : Int32) &&& 31)) : Int32) &&& 31)]) (rest := []) (wr := []) (ws' := []) F (c_X6_locationOf l G (((p0 >>> ((4 : Int32) &&& 31)) : Int32) &&& 7) (((p0 >>> ((7 : Int32) &&& 31)) : Int32) &&& 31)) okS_X6_locationOf kn_X3_9 rfl rfl ⟨Nat.le_of_ble_eq_true rfl, Nat.le_of_ble_eq_true rfl⟩ hN hK hP hD hS hA [] [] [] (by decide) rfl rfl (by decide) (by decide) (by decide) rfl rfl rfl hl.1 (Nat.le_of_ble_eq_true rfl) dX3_operand_13 ⟨Nat.le_refl _, Nat.le_refl _⟩ (fun H locs hP hD hS => ?_)
  exact gRetI F hr hlocks hK hP hD hS rfl rfl (Nat.le_of_ble_eq_true rfl) (Nat.le_of_ble_eq_true rfl) dX3_operand_16
theorem okS_X3_operand : gOkS yX3_operand cX3_operand 1 (some .int) 1 := ⟨⟨k_st_X3_operand, k_in_X3, k_cd_X3_operand⟩, by decide, by decide, by decide +kernel⟩
def f_X3_next (p0 : Int32) : Int32 :=
  (f_X6_locationOf (((p0 >>> ((12 : Int32) &&& 31)) : Int32) &&& 7) (((p0 >>> ((15 : Int32) &&& 31)) : Int32) &&& 31))
set_option maxRecDepth 100000 in
set_option maxHeartbeats 4000000 in
theorem c_X3_next (l : Launch) (G : gG) (p0 : Int32) : gM l G yX3_next cX3_next 1 (some .int) { frames := 1, cells := 0, slots := 0, locals := 21 } [.int p0] [] (some (.int (f_X3_next p0))) [] 0 0 := by
  refine gBegin (by decide +kernel) (Nat.le_of_ble_eq_true rfl) (fun p e s m args below meth c A F hr hlocks hname hN hK hP hD hA hS ls hl => ?_)
  obtain ⟨hx, hb, hml, hown, hts⟩ := id F
  replace hP : va_P G.1 vwCl [] s.heap := hP
  replace hl : lv_has ls 1 [(0, .int p0)] := hl
  refine lv_iload_n hx hb dX3_next_0 rfl (lv_at hl 0 rfl) ?_
  refine lv_bipush (v := 12) hx hb dX3_next_1 (by decide) ?_
  refine lv_ishr hx hb dX3_next_3 ?_
  refine lv_bipush (v := 7) hx hb dX3_next_4 (by decide) ?_
  refine lv_iand hx hb dX3_next_6 ?_
  refine lv_iload_n hx hb dX3_next_7 rfl (lv_at hl 0 rfl) ?_
  refine lv_bipush (v := 15) hx hb dX3_next_8 (by decide) ?_
  refine lv_ishr hx hb dX3_next_10 ?_
  refine lv_bipush (v := 31) hx hb dX3_next_11 (by decide) ?_
  refine lv_iand hx hb dX3_next_13 ?_
  refine gSN (As := [.int (((p0 >>> ((12 : Int32) &&& 31)) : Int32) &&& 7), .int (((p0 >>> ((15 : Int32) &&& 31)) : Int32) &&& 31)]) (rest := []) (wr := []) (ws' := []) F (c_X6_locationOf l G (((p0 >>> ((12 : Int32) &&& 31)) : Int32) &&& 7) (((p0 >>> ((15 : Int32) &&& 31)) : Int32) &&& 31)) okS_X6_locationOf kn_X3_9 rfl rfl ⟨Nat.le_of_ble_eq_true rfl, Nat.le_of_ble_eq_true rfl⟩ hN hK hP hD hS hA [] [] [] (by decide) rfl rfl (by decide) (by decide) (by decide) rfl rfl rfl hl.1 (Nat.le_of_ble_eq_true rfl) dX3_next_14 ⟨Nat.le_refl _, Nat.le_refl _⟩ (fun H locs hP hD hS => ?_)
  exact gRetI F hr hlocks hK hP hD hS rfl rfl (Nat.le_of_ble_eq_true rfl) (Nat.le_of_ble_eq_true rfl) dX3_next_17
theorem okS_X3_next : gOkS yX3_next cX3_next 1 (some .int) 1 := ⟨⟨k_st_X3_next, k_in_X3, k_cd_X3_next⟩, by decide, by decide, by decide +kernel⟩
def f_X3_isJump (p0 : Int32) : Int32 :=
  if p0 = 10 then
    1
  else
    if p0 = 11 then
      1
    else
      if p0 = 12 then
        1
      else
        0
set_option maxRecDepth 100000 in
set_option maxHeartbeats 4000000 in
theorem c_X3_isJump (l : Launch) (G : gG) (p0 : Int32) : gM l G yX3_isJump cX3_isJump 1 (some .boolean) { frames := 0, cells := 0, slots := 0, locals := 0 } [.int p0] [] (some (.int (f_X3_isJump p0))) [] 0 0 := by
  refine gBegin (by decide +kernel) (Nat.le_of_ble_eq_true rfl) (fun p e s m args below meth c A F hr hlocks hname hN hK hP hD hA hS ls hl => ?_)
  obtain ⟨hx, hb, hml, hown, hts⟩ := id F
  replace hP : va_P G.1 vwCl [] s.heap := hP
  replace hl : lv_has ls 1 [(0, .int p0)] := hl
  refine lv_iload_n hx hb dX3_isJump_0 rfl (lv_at hl 0 rfl) ?_
  refine lv_bipush (v := 10) hx hb dX3_isJump_1 (by decide) ?_
  refine lv_icmp_eq (tgt := 18) hx hb dX3_isJump_3 (by decide) (fun c_1 => ?_) (fun c_1 => ?_)
  · skip
    refine lv_iconst (v := 1) hx hb dX3_isJump_18 (by decide) ?_
    refine lv_goto (tgt := 23) hx hb dX3_isJump_19 (by decide) ?_
    have ef : (f_X3_isJump p0) = 1 := (if_pos c_1)
    exact gRetZ F hr hlocks hK hP hD hS rfl (by rw [ef]) rfl (Nat.le_of_ble_eq_true rfl) (Nat.le_of_ble_eq_true rfl) dX3_isJump_23
  · skip
    refine lv_iload_n hx hb dX3_isJump_6 rfl (lv_at hl 0 rfl) ?_
    refine lv_bipush (v := 11) hx hb dX3_isJump_7 (by decide) ?_
    refine lv_icmp_eq (tgt := 18) hx hb dX3_isJump_9 (by decide) (fun c_2 => ?_) (fun c_2 => ?_)
    · skip
      refine lv_iconst (v := 1) hx hb dX3_isJump_18 (by decide) ?_
      refine lv_goto (tgt := 23) hx hb dX3_isJump_19 (by decide) ?_
      have ef : (f_X3_isJump p0) = 1 := ((if_neg c_1).trans (if_pos c_2))
      exact gRetZ F hr hlocks hK hP hD hS rfl (by rw [ef]) rfl (Nat.le_of_ble_eq_true rfl) (Nat.le_of_ble_eq_true rfl) dX3_isJump_23
    · skip
      refine lv_iload_n hx hb dX3_isJump_12 rfl (lv_at hl 0 rfl) ?_
      refine lv_bipush (v := 12) hx hb dX3_isJump_13 (by decide) ?_
      refine lv_icmp_ne (tgt := 22) hx hb dX3_isJump_15 (by decide) (fun c_3 => ?_) (fun c_3 => ?_)
      · skip
        refine lv_iconst (v := 0) hx hb dX3_isJump_22 (by decide) ?_
        have ef : (f_X3_isJump p0) = 0 := ((if_neg c_1).trans ((if_neg c_2).trans (if_neg c_3)))
        exact gRetZ F hr hlocks hK hP hD hS rfl (by rw [ef]) rfl (Nat.le_of_ble_eq_true rfl) (Nat.le_of_ble_eq_true rfl) dX3_isJump_23
      · skip
        refine lv_iconst (v := 1) hx hb dX3_isJump_18 (by decide) ?_
        refine lv_goto (tgt := 23) hx hb dX3_isJump_19 (by decide) ?_
        have ef : (f_X3_isJump p0) = 1 := ((if_neg c_1).trans ((if_neg c_2).trans (if_pos c_3)))
        exact gRetZ F hr hlocks hK hP hD hS rfl (by rw [ef]) rfl (Nat.le_of_ble_eq_true rfl) (Nat.le_of_ble_eq_true rfl) dX3_isJump_23
theorem okS_X3_isJump : gOkS yX3_isJump cX3_isJump 1 (some .boolean) 1 := ⟨⟨k_st_X3_isJump, k_in_X3, k_cd_X3_isJump⟩, by decide, by decide, by decide +kernel⟩
def f_X3_operandForm (p0 : Int32) : Int32 :=
  if p0 = 0 then
    0
  else
    if p0 = 1 then
      1
    else
      if p0 = 2 then
        1
      else
        if p0 = 3 then
          1
        else
          if p0 = 4 then
            1
          else
            if p0 = 5 then
              1
            else
              if p0 = 6 then
                1
              else
                if p0 = 7 then
                  1
                else
                  if p0 = 8 then
                    2
                  else
                    if p0 = 9 then
                      2
                    else
                      if p0 = 10 then
                        1
                      else
                        if p0 = 11 then
                          1
                        else
                          if p0 = 12 then
                            1
                          else
                            if p0 = 13 then
                              0
                            else
                              if p0 = 14 then
                                0
                              else
                                1
set_option maxRecDepth 100000 in
set_option maxHeartbeats 4000000 in
theorem c_X3_operandForm (l : Launch) (G : gG) (p0 : Int32) : gM l G yX3_operandForm cX3_operandForm 1 (some .int) { frames := 0, cells := 0, slots := 0, locals := 0 } [.int p0] [] (some (.int (f_X3_operandForm p0))) [] 0 0 := by
  refine gBegin (by decide +kernel) (Nat.le_of_ble_eq_true rfl) (fun p e s m args below meth c A F hr hlocks hname hN hK hP hD hA hS ls hl => ?_)
  obtain ⟨hx, hb, hml, hown, hts⟩ := id F
  replace hP : va_P G.1 vwCl [] s.heap := hP
  replace hl : lv_has ls 1 [(0, .int p0)] := hl
  refine lv_iload_n hx hb dX3_operandForm_0 rfl (lv_at hl 0 rfl) ?_
  rcases (Decidable.em (p0 = 0)) with c_1 | c_1
  · skip
    refine lv_tableIn (off := 75) (tgt := 76) hx hb dX3_operandForm_1 (by rw [c_1]; decide) (by rw [c_1]; decide) (by rw [c_1]; decide) (by decide) ?_
    refine lv_iconst (v := 0) hx hb dX3_operandForm_76 (by decide) ?_
    have ef : (f_X3_operandForm p0) = 0 := (if_pos c_1)
    exact gRetI F hr hlocks hK hP hD hS (by rw [ef]) rfl (Nat.le_of_ble_eq_true rfl) (Nat.le_of_ble_eq_true rfl) dX3_operandForm_77
  · skip
    rcases (Decidable.em (p0 = 1)) with c_2 | c_2
    · skip
      refine lv_tableIn (off := 79) (tgt := 80) hx hb dX3_operandForm_1 (by rw [c_2]; decide) (by rw [c_2]; decide) (by rw [c_2]; decide) (by decide) ?_
      refine lv_iconst (v := 1) hx hb dX3_operandForm_80 (by decide) ?_
      have ef : (f_X3_operandForm p0) = 1 := ((if_neg c_1).trans (if_pos c_2))
      exact gRetI F hr hlocks hK hP hD hS (by rw [ef]) rfl (Nat.le_of_ble_eq_true rfl) (Nat.le_of_ble_eq_true rfl) dX3_operandForm_81
    · skip
      rcases (Decidable.em (p0 = 2)) with c_3 | c_3
      · skip
        refine lv_tableIn (off := 79) (tgt := 80) hx hb dX3_operandForm_1 (by rw [c_3]; decide) (by rw [c_3]; decide) (by rw [c_3]; decide) (by decide) ?_
        refine lv_iconst (v := 1) hx hb dX3_operandForm_80 (by decide) ?_
        have ef : (f_X3_operandForm p0) = 1 := ((if_neg c_1).trans ((if_neg c_2).trans (if_pos c_3)))
        exact gRetI F hr hlocks hK hP hD hS (by rw [ef]) rfl (Nat.le_of_ble_eq_true rfl) (Nat.le_of_ble_eq_true rfl) dX3_operandForm_81
      · skip
        rcases (Decidable.em (p0 = 3)) with c_4 | c_4
        · skip
          refine lv_tableIn (off := 79) (tgt := 80) hx hb dX3_operandForm_1 (by rw [c_4]; decide) (by rw [c_4]; decide) (by rw [c_4]; decide) (by decide) ?_
          refine lv_iconst (v := 1) hx hb dX3_operandForm_80 (by decide) ?_
          have ef : (f_X3_operandForm p0) = 1 := ((if_neg c_1).trans ((if_neg c_2).trans ((if_neg c_3).trans (if_pos c_4))))
          exact gRetI F hr hlocks hK hP hD hS (by rw [ef]) rfl (Nat.le_of_ble_eq_true rfl) (Nat.le_of_ble_eq_true rfl) dX3_operandForm_81
        · skip
          rcases (Decidable.em (p0 = 4)) with c_5 | c_5
          · skip
            refine lv_tableIn (off := 79) (tgt := 80) hx hb dX3_operandForm_1 (by rw [c_5]; decide) (by rw [c_5]; decide) (by rw [c_5]; decide) (by decide) ?_
            refine lv_iconst (v := 1) hx hb dX3_operandForm_80 (by decide) ?_
            have ef : (f_X3_operandForm p0) = 1 := ((if_neg c_1).trans ((if_neg c_2).trans ((if_neg c_3).trans ((if_neg c_4).trans (if_pos c_5)))))
            exact gRetI F hr hlocks hK hP hD hS (by rw [ef]) rfl (Nat.le_of_ble_eq_true rfl) (Nat.le_of_ble_eq_true rfl) dX3_operandForm_81
          · skip
            rcases (Decidable.em (p0 = 5)) with c_6 | c_6
            · skip
              refine lv_tableIn (off := 79) (tgt := 80) hx hb dX3_operandForm_1 (by rw [c_6]; decide) (by rw [c_6]; decide) (by rw [c_6]; decide) (by decide) ?_
              refine lv_iconst (v := 1) hx hb dX3_operandForm_80 (by decide) ?_
              have ef : (f_X3_operandForm p0) = 1 := ((if_neg c_1).trans ((if_neg c_2).trans ((if_neg c_3).trans ((if_neg c_4).trans ((if_neg c_5).trans (if_pos c_6))))))
              exact gRetI F hr hlocks hK hP hD hS (by rw [ef]) rfl (Nat.le_of_ble_eq_true rfl) (Nat.le_of_ble_eq_true rfl) dX3_operandForm_81
            · skip
              rcases (Decidable.em (p0 = 6)) with c_7 | c_7
              · skip
                refine lv_tableIn (off := 79) (tgt := 80) hx hb dX3_operandForm_1 (by rw [c_7]; decide) (by rw [c_7]; decide) (by rw [c_7]; decide) (by decide) ?_
                refine lv_iconst (v := 1) hx hb dX3_operandForm_80 (by decide) ?_
                have ef : (f_X3_operandForm p0) = 1 := ((if_neg c_1).trans ((if_neg c_2).trans ((if_neg c_3).trans ((if_neg c_4).trans ((if_neg c_5).trans ((if_neg c_6).trans (if_pos c_7)))))))
                exact gRetI F hr hlocks hK hP hD hS (by rw [ef]) rfl (Nat.le_of_ble_eq_true rfl) (Nat.le_of_ble_eq_true rfl) dX3_operandForm_81
              · skip
                rcases (Decidable.em (p0 = 7)) with c_8 | c_8
                · skip
                  refine lv_tableIn (off := 79) (tgt := 80) hx hb dX3_operandForm_1 (by rw [c_8]; decide) (by rw [c_8]; decide) (by rw [c_8]; decide) (by decide) ?_
                  refine lv_iconst (v := 1) hx hb dX3_operandForm_80 (by decide) ?_
                  have ef : (f_X3_operandForm p0) = 1 := ((if_neg c_1).trans ((if_neg c_2).trans ((if_neg c_3).trans ((if_neg c_4).trans ((if_neg c_5).trans ((if_neg c_6).trans ((if_neg c_7).trans (if_pos c_8))))))))
                  exact gRetI F hr hlocks hK hP hD hS (by rw [ef]) rfl (Nat.le_of_ble_eq_true rfl) (Nat.le_of_ble_eq_true rfl) dX3_operandForm_81
                · skip
                  rcases (Decidable.em (p0 = 8)) with c_9 | c_9
                  · skip
                    refine lv_tableIn (off := 77) (tgt := 78) hx hb dX3_operandForm_1 (by rw [c_9]; decide) (by rw [c_9]; decide) (by rw [c_9]; decide) (by decide) ?_
                    refine lv_iconst (v := 2) hx hb dX3_operandForm_78 (by decide) ?_
                    have ef : (f_X3_operandForm p0) = 2 := ((if_neg c_1).trans ((if_neg c_2).trans ((if_neg c_3).trans ((if_neg c_4).trans ((if_neg c_5).trans ((if_neg c_6).trans ((if_neg c_7).trans ((if_neg c_8).trans (if_pos c_9)))))))))
                    exact gRetI F hr hlocks hK hP hD hS (by rw [ef]) rfl (Nat.le_of_ble_eq_true rfl) (Nat.le_of_ble_eq_true rfl) dX3_operandForm_79
                  · skip
                    rcases (Decidable.em (p0 = 9)) with c_10 | c_10
                    · skip
                      refine lv_tableIn (off := 77) (tgt := 78) hx hb dX3_operandForm_1 (by rw [c_10]; decide) (by rw [c_10]; decide) (by rw [c_10]; decide) (by decide) ?_
                      refine lv_iconst (v := 2) hx hb dX3_operandForm_78 (by decide) ?_
                      have ef : (f_X3_operandForm p0) = 2 := ((if_neg c_1).trans ((if_neg c_2).trans ((if_neg c_3).trans ((if_neg c_4).trans ((if_neg c_5).trans ((if_neg c_6).trans ((if_neg c_7).trans ((if_neg c_8).trans ((if_neg c_9).trans (if_pos c_10))))))))))
                      exact gRetI F hr hlocks hK hP hD hS (by rw [ef]) rfl (Nat.le_of_ble_eq_true rfl) (Nat.le_of_ble_eq_true rfl) dX3_operandForm_79
                    · skip
                      rcases (Decidable.em (p0 = 10)) with c_11 | c_11
                      · skip
                        refine lv_tableIn (off := 79) (tgt := 80) hx hb dX3_operandForm_1 (by rw [c_11]; decide) (by rw [c_11]; decide) (by rw [c_11]; decide) (by decide) ?_
                        refine lv_iconst (v := 1) hx hb dX3_operandForm_80 (by decide) ?_
                        have ef : (f_X3_operandForm p0) = 1 := ((if_neg c_1).trans ((if_neg c_2).trans ((if_neg c_3).trans ((if_neg c_4).trans ((if_neg c_5).trans ((if_neg c_6).trans ((if_neg c_7).trans ((if_neg c_8).trans ((if_neg c_9).trans ((if_neg c_10).trans (if_pos c_11)))))))))))
                        exact gRetI F hr hlocks hK hP hD hS (by rw [ef]) rfl (Nat.le_of_ble_eq_true rfl) (Nat.le_of_ble_eq_true rfl) dX3_operandForm_81
                      · skip
                        rcases (Decidable.em (p0 = 11)) with c_12 | c_12
                        · skip
                          refine lv_tableIn (off := 79) (tgt := 80) hx hb dX3_operandForm_1 (by rw [c_12]; decide) (by rw [c_12]; decide) (by rw [c_12]; decide) (by decide) ?_
                          refine lv_iconst (v := 1) hx hb dX3_operandForm_80 (by decide) ?_
                          have ef : (f_X3_operandForm p0) = 1 := ((if_neg c_1).trans ((if_neg c_2).trans ((if_neg c_3).trans ((if_neg c_4).trans ((if_neg c_5).trans ((if_neg c_6).trans ((if_neg c_7).trans ((if_neg c_8).trans ((if_neg c_9).trans ((if_neg c_10).trans ((if_neg c_11).trans (if_pos c_12))))))))))))
                          exact gRetI F hr hlocks hK hP hD hS (by rw [ef]) rfl (Nat.le_of_ble_eq_true rfl) (Nat.le_of_ble_eq_true rfl) dX3_operandForm_81
                        · skip
                          rcases (Decidable.em (p0 = 12)) with c_13 | c_13
                          · skip
                            refine lv_tableIn (off := 79) (tgt := 80) hx hb dX3_operandForm_1 (by rw [c_13]; decide) (by rw [c_13]; decide) (by rw [c_13]; decide) (by decide) ?_
                            refine lv_iconst (v := 1) hx hb dX3_operandForm_80 (by decide) ?_
                            have ef : (f_X3_operandForm p0) = 1 := ((if_neg c_1).trans ((if_neg c_2).trans ((if_neg c_3).trans ((if_neg c_4).trans ((if_neg c_5).trans ((if_neg c_6).trans ((if_neg c_7).trans ((if_neg c_8).trans ((if_neg c_9).trans ((if_neg c_10).trans ((if_neg c_11).trans ((if_neg c_12).trans (if_pos c_13)))))))))))))
                            exact gRetI F hr hlocks hK hP hD hS (by rw [ef]) rfl (Nat.le_of_ble_eq_true rfl) (Nat.le_of_ble_eq_true rfl) dX3_operandForm_81
                          · skip
                            rcases (Decidable.em (p0 = 13)) with c_14 | c_14
                            · skip
                              refine lv_tableIn (off := 75) (tgt := 76) hx hb dX3_operandForm_1 (by rw [c_14]; decide) (by rw [c_14]; decide) (by rw [c_14]; decide) (by decide) ?_
                              refine lv_iconst (v := 0) hx hb dX3_operandForm_76 (by decide) ?_
                              have ef : (f_X3_operandForm p0) = 0 := ((if_neg c_1).trans ((if_neg c_2).trans ((if_neg c_3).trans ((if_neg c_4).trans ((if_neg c_5).trans ((if_neg c_6).trans ((if_neg c_7).trans ((if_neg c_8).trans ((if_neg c_9).trans ((if_neg c_10).trans ((if_neg c_11).trans ((if_neg c_12).trans ((if_neg c_13).trans (if_pos c_14))))))))))))))
                              exact gRetI F hr hlocks hK hP hD hS (by rw [ef]) rfl (Nat.le_of_ble_eq_true rfl) (Nat.le_of_ble_eq_true rfl) dX3_operandForm_77
                            · skip
                              rcases (Decidable.em (p0 = 14)) with c_15 | c_15
                              · skip
                                refine lv_tableIn (off := 75) (tgt := 76) hx hb dX3_operandForm_1 (by rw [c_15]; decide) (by rw [c_15]; decide) (by rw [c_15]; decide) (by decide) ?_
                                refine lv_iconst (v := 0) hx hb dX3_operandForm_76 (by decide) ?_
                                have ef : (f_X3_operandForm p0) = 0 := ((if_neg c_1).trans ((if_neg c_2).trans ((if_neg c_3).trans ((if_neg c_4).trans ((if_neg c_5).trans ((if_neg c_6).trans ((if_neg c_7).trans ((if_neg c_8).trans ((if_neg c_9).trans ((if_neg c_10).trans ((if_neg c_11).trans ((if_neg c_12).trans ((if_neg c_13).trans ((if_neg c_14).trans (if_pos c_15)))))))))))))))
                                exact gRetI F hr hlocks hK hP hD hS (by rw [ef]) rfl (Nat.le_of_ble_eq_true rfl) (Nat.le_of_ble_eq_true rfl) dX3_operandForm_77
                              · skip
                                have qc_1 : ¬ p0.toInt = 0 := lv_neT c_1 (by decide)
                                have qc_2 : ¬ p0.toInt = 1 := lv_neT c_2 (by decide)
                                have qc_3 : ¬ p0.toInt = 2 := lv_neT c_3 (by decide)
                                have qc_4 : ¬ p0.toInt = 3 := lv_neT c_4 (by decide)
                                have qc_5 : ¬ p0.toInt = 4 := lv_neT c_5 (by decide)
                                have qc_6 : ¬ p0.toInt = 5 := lv_neT c_6 (by decide)
                                have qc_7 : ¬ p0.toInt = 6 := lv_neT c_7 (by decide)
                                have qc_8 : ¬ p0.toInt = 7 := lv_neT c_8 (by decide)
                                have qc_9 : ¬ p0.toInt = 8 := lv_neT c_9 (by decide)
                                have qc_10 : ¬ p0.toInt = 9 := lv_neT c_10 (by decide)
                                have qc_11 : ¬ p0.toInt = 10 := lv_neT c_11 (by decide)
                                have qc_12 : ¬ p0.toInt = 11 := lv_neT c_12 (by decide)
                                have qc_13 : ¬ p0.toInt = 12 := lv_neT c_13 (by decide)
                                have qc_14 : ¬ p0.toInt = 13 := lv_neT c_14 (by decide)
                                have qc_15 : ¬ p0.toInt = 14 := lv_neT c_15 (by decide)
                                refine lv_tableOut (tgt := 80) hx hb dX3_operandForm_1 (by omega) (by decide) ?_
                                refine lv_iconst (v := 1) hx hb dX3_operandForm_80 (by decide) ?_
                                have ef : (f_X3_operandForm p0) = 1 := ((if_neg c_1).trans ((if_neg c_2).trans ((if_neg c_3).trans ((if_neg c_4).trans ((if_neg c_5).trans ((if_neg c_6).trans ((if_neg c_7).trans ((if_neg c_8).trans ((if_neg c_9).trans ((if_neg c_10).trans ((if_neg c_11).trans ((if_neg c_12).trans ((if_neg c_13).trans ((if_neg c_14).trans (if_neg c_15)))))))))))))))
                                exact gRetI F hr hlocks hK hP hD hS (by rw [ef]) rfl (Nat.le_of_ble_eq_true rfl) (Nat.le_of_ble_eq_true rfl) dX3_operandForm_81
theorem okS_X3_operandForm : gOkS yX3_operandForm cX3_operandForm 1 (some .int) 1 := ⟨⟨k_st_X3_operandForm, k_in_X3, k_cd_X3_operandForm⟩, by decide, by decide, by decide +kernel⟩
def f_X3_waitsForOperand (p0 : Int32) : Int32 :=
  if (f_X3_operandForm p0) = 1 then
    if (f_X3_isJump p0) = 0 then
      1
    else
      0
  else
    0
set_option maxRecDepth 100000 in
set_option maxHeartbeats 4000000 in
theorem c_X3_waitsForOperand (l : Launch) (G : gG) (p0 : Int32) : gM l G yX3_waitsForOperand cX3_waitsForOperand 1 (some .boolean) { frames := 1, cells := 0, slots := 0, locals := 20 } [.int p0] [] (some (.int (f_X3_waitsForOperand p0))) [] 0 0 := by
  refine gBegin (by decide +kernel) (Nat.le_of_ble_eq_true rfl) (fun p e s m args below meth c A F hr hlocks hname hN hK hP hD hA hS ls hl => ?_)
  obtain ⟨hx, hb, hml, hown, hts⟩ := id F
  replace hP : va_P G.1 vwCl [] s.heap := hP
  replace hl : lv_has ls 1 [(0, .int p0)] := hl
  refine lv_iload_n hx hb dX3_waitsForOperand_0 rfl (lv_at hl 0 rfl) ?_
  refine gS (As := [.int p0]) (rest := []) (wr := []) (ws' := []) F (c_X3_operandForm l G p0) okS_X3_operandForm k_ml_X3_58 rfl rfl ⟨Nat.le_of_ble_eq_true rfl, Nat.le_of_ble_eq_true rfl⟩ hN hK hP hD hS hA [] [] [] (by decide) rfl rfl (by decide) (by decide) (by decide) rfl rfl rfl hl.1 (Nat.le_of_ble_eq_true rfl) dX3_waitsForOperand_1 ⟨Nat.le_refl _, Nat.le_refl _⟩ (fun H locs hP hD hS => ?_)
  refine lv_iconst (v := 1) hx hb dX3_waitsForOperand_4 (by decide) ?_
  refine lv_icmp_ne (tgt := 19) hx hb dX3_waitsForOperand_5 (by decide) (fun c_1 => ?_) (fun c_1 => ?_)
  · skip
    refine lv_iconst (v := 0) hx hb dX3_waitsForOperand_19 (by decide) ?_
    have ef : (f_X3_waitsForOperand p0) = 0 := (if_neg c_1)
    exact gRetZ F hr hlocks hK hP hD hS rfl (by rw [ef]) rfl (Nat.le_of_ble_eq_true rfl) (Nat.le_of_ble_eq_true rfl) dX3_waitsForOperand_20
  · skip
    refine lv_iload_n hx hb dX3_waitsForOperand_8 rfl (lv_at hl 0 rfl) ?_
    refine gS (As := [.int p0]) (rest := []) (wr := []) (ws' := []) F (c_X3_isJump l G p0) okS_X3_isJump k_ml_X3_61 rfl rfl ⟨Nat.le_of_ble_eq_true rfl, Nat.le_of_ble_eq_true rfl⟩ hN hK hP hD hS hA [] [] [] (by decide) rfl rfl (by decide) (by decide) (by decide) rfl rfl rfl hl.1 (Nat.le_of_ble_eq_true rfl) dX3_waitsForOperand_9 ⟨Nat.le_refl _, Nat.le_refl _⟩ (fun H locs hP hD hS => ?_)
    refine lv_if_ne (tgt := 19) hx hb dX3_waitsForOperand_12 (by decide) (fun c_2 => ?_) (fun c_2 => ?_)
    · skip
      refine lv_iconst (v := 0) hx hb dX3_waitsForOperand_19 (by decide) ?_
      have ef : (f_X3_waitsForOperand p0) = 0 := ((if_pos c_1).trans (if_neg c_2))
      exact gRetZ F hr hlocks hK hP hD hS rfl (by rw [ef]) rfl (Nat.le_of_ble_eq_true rfl) (Nat.le_of_ble_eq_true rfl) dX3_waitsForOperand_20
    · skip
      refine lv_iconst (v := 1) hx hb dX3_waitsForOperand_15 (by decide) ?_
      refine lv_goto (tgt := 20) hx hb dX3_waitsForOperand_16 (by decide) ?_
      have ef : (f_X3_waitsForOperand p0) = 1 := ((if_pos c_1).trans (if_pos c_2))
      exact gRetZ F hr hlocks hK hP hD hS rfl (by rw [ef]) rfl (Nat.le_of_ble_eq_true rfl) (Nat.le_of_ble_eq_true rfl) dX3_waitsForOperand_20
theorem okS_X3_waitsForOperand : gOkS yX3_waitsForOperand cX3_waitsForOperand 1 (some .boolean) 1 := ⟨⟨k_st_X3_waitsForOperand, k_in_X3, k_cd_X3_waitsForOperand⟩, by decide, by decide, by decide +kernel⟩
def f_X3_ownTime (p0 : Int32) : Int32 :=
  if (f_X3_opcode p0) = 0 then
    0
  else
    if (f_X3_opcode p0) = 7 then
      21
    else
      if (f_X3_opcode p0) = 8 then
        (1 + (f_X6_cycleOf (f_X3_operand p0)))
      else
        if (f_X3_opcode p0) = 9 then
          (1 + (f_X6_cycleOf (f_X3_operand p0)))
        else
          if (f_X3_opcode p0) = 15 then
            33
          else
            1
set_option maxRecDepth 100000 in
set_option maxHeartbeats 4000000 in
theorem c_X3_ownTime (l : Launch) (G : gG) (p0 : Int32) : gM l G yX3_ownTime cX3_ownTime 1 (some .int) { frames := 2, cells := 0, slots := 0, locals := 41 } [.int p0] [] (some (.int (f_X3_ownTime p0))) [] 0 0 := by
  refine gBegin (by decide +kernel) (Nat.le_of_ble_eq_true rfl) (fun p e s m args below meth c A F hr hlocks hname hN hK hP hD hA hS ls hl => ?_)
  obtain ⟨hx, hb, hml, hown, hts⟩ := id F
  replace hP : va_P G.1 vwCl [] s.heap := hP
  replace hl : lv_has ls 1 [(0, .int p0)] := hl
  refine lv_iload_n hx hb dX3_ownTime_0 rfl (lv_at hl 0 rfl) ?_
  refine gS (As := [.int p0]) (rest := []) (wr := []) (ws' := []) F (c_X3_opcode l G p0) okS_X3_opcode k_ml_X3_65 rfl rfl ⟨Nat.le_of_ble_eq_true rfl, Nat.le_of_ble_eq_true rfl⟩ hN hK hP hD hS hA [] [] [] (by decide) rfl rfl (by decide) (by decide) (by decide) rfl rfl rfl hl.1 (Nat.le_of_ble_eq_true rfl) dX3_ownTime_1 ⟨Nat.le_refl _, Nat.le_refl _⟩ (fun H locs hP hD hS => ?_)
  rcases (Decidable.em ((f_X3_opcode p0) = 0)) with c_1 | c_1
  · skip
    refine lv_lookup (off := 52) (tgt := 56) hx hb dX3_ownTime_4 (by decide) (by rw [c_1]; rfl) (by decide) ?_
    refine lv_iconst (v := 0) hx hb dX3_ownTime_56 (by decide) ?_
    have ef : (f_X3_ownTime p0) = 0 := (if_pos c_1)
    exact gRetI F hr hlocks hK hP hD hS (by rw [ef]) rfl (Nat.le_of_ble_eq_true rfl) (Nat.le_of_ble_eq_true rfl) dX3_ownTime_57
  · skip
    rcases (Decidable.em ((f_X3_opcode p0) = 7)) with c_2 | c_2
    · skip
      refine lv_lookup (off := 54) (tgt := 58) hx hb dX3_ownTime_4 (by decide) (by rw [lv_osw c_1 (by decide)]; rw [c_2]; rfl) (by decide) ?_
      refine lv_bipush (v := 21) hx hb dX3_ownTime_58 (by decide) ?_
      have ef : (f_X3_ownTime p0) = 21 := ((if_neg c_1).trans (if_pos c_2))
      exact gRetI F hr hlocks hK hP hD hS (by rw [ef]) rfl (Nat.le_of_ble_eq_true rfl) (Nat.le_of_ble_eq_true rfl) dX3_ownTime_60
    · skip
      rcases (Decidable.em ((f_X3_opcode p0) = 8)) with c_3 | c_3
      · skip
        refine lv_lookup (off := 57) (tgt := 61) hx hb dX3_ownTime_4 (by decide) (by rw [lv_osw c_1 (by decide)]; rw [lv_osw c_2 (by decide)]; rw [c_3]; rfl) (by decide) ?_
        refine lv_iconst (v := 1) hx hb dX3_ownTime_61 (by decide) ?_
        refine lv_iload_n hx hb dX3_ownTime_62 rfl (lv_at hl 0 rfl) ?_
        refine gS (As := [.int p0]) (rest := [.int 1]) (wr := []) (ws' := []) F (c_X3_operand l G p0) okS_X3_operand k_ml_X3_68 rfl rfl ⟨Nat.le_of_ble_eq_true rfl, Nat.le_of_ble_eq_true rfl⟩ hN hK hP hD hS hA [] [] [] (by decide) rfl rfl (by decide) (by decide) (by decide) rfl rfl rfl hl.1 (Nat.le_of_ble_eq_true rfl) dX3_ownTime_63 ⟨Nat.le_refl _, Nat.le_refl _⟩ (fun H locs hP hD hS => ?_)
        refine gSN (As := [.int (f_X3_operand p0)]) (rest := [.int 1]) (wr := []) (ws' := []) F (c_X6_cycleOf l G (f_X3_operand p0)) okS_X6_cycleOf kn_X3_13 rfl rfl ⟨Nat.le_of_ble_eq_true rfl, Nat.le_of_ble_eq_true rfl⟩ hN hK hP hD hS hA [] [] [] (by decide) rfl rfl (by decide) (by decide) (by decide) rfl rfl rfl hl.1 (Nat.le_of_ble_eq_true rfl) dX3_ownTime_66 ⟨Nat.le_refl _, Nat.le_refl _⟩ (fun H locs hP hD hS => ?_)
        refine lv_iadd hx hb dX3_ownTime_69 ?_
        have ef : (f_X3_ownTime p0) = (1 + (f_X6_cycleOf (f_X3_operand p0))) := ((if_neg c_1).trans ((if_neg c_2).trans (if_pos c_3)))
        exact gRetI F hr hlocks hK hP hD hS (by rw [ef]) rfl (Nat.le_of_ble_eq_true rfl) (Nat.le_of_ble_eq_true rfl) dX3_ownTime_70
      · skip
        rcases (Decidable.em ((f_X3_opcode p0) = 9)) with c_4 | c_4
        · skip
          refine lv_lookup (off := 67) (tgt := 71) hx hb dX3_ownTime_4 (by decide) (by rw [lv_osw c_1 (by decide)]; rw [lv_osw c_2 (by decide)]; rw [lv_osw c_3 (by decide)]; rw [c_4]; rfl) (by decide) ?_
          refine lv_iconst (v := 1) hx hb dX3_ownTime_71 (by decide) ?_
          refine lv_iload_n hx hb dX3_ownTime_72 rfl (lv_at hl 0 rfl) ?_
          refine gS (As := [.int p0]) (rest := [.int 1]) (wr := []) (ws' := []) F (c_X3_operand l G p0) okS_X3_operand k_ml_X3_68 rfl rfl ⟨Nat.le_of_ble_eq_true rfl, Nat.le_of_ble_eq_true rfl⟩ hN hK hP hD hS hA [] [] [] (by decide) rfl rfl (by decide) (by decide) (by decide) rfl rfl rfl hl.1 (Nat.le_of_ble_eq_true rfl) dX3_ownTime_73 ⟨Nat.le_refl _, Nat.le_refl _⟩ (fun H locs hP hD hS => ?_)
          refine gSN (As := [.int (f_X3_operand p0)]) (rest := [.int 1]) (wr := []) (ws' := []) F (c_X6_cycleOf l G (f_X3_operand p0)) okS_X6_cycleOf kn_X3_13 rfl rfl ⟨Nat.le_of_ble_eq_true rfl, Nat.le_of_ble_eq_true rfl⟩ hN hK hP hD hS hA [] [] [] (by decide) rfl rfl (by decide) (by decide) (by decide) rfl rfl rfl hl.1 (Nat.le_of_ble_eq_true rfl) dX3_ownTime_76 ⟨Nat.le_refl _, Nat.le_refl _⟩ (fun H locs hP hD hS => ?_)
          refine lv_iadd hx hb dX3_ownTime_79 ?_
          have ef : (f_X3_ownTime p0) = (1 + (f_X6_cycleOf (f_X3_operand p0))) := ((if_neg c_1).trans ((if_neg c_2).trans ((if_neg c_3).trans (if_pos c_4))))
          exact gRetI F hr hlocks hK hP hD hS (by rw [ef]) rfl (Nat.le_of_ble_eq_true rfl) (Nat.le_of_ble_eq_true rfl) dX3_ownTime_80
        · skip
          rcases (Decidable.em ((f_X3_opcode p0) = 15)) with c_5 | c_5
          · skip
            refine lv_lookup (off := 77) (tgt := 81) hx hb dX3_ownTime_4 (by decide) (by rw [lv_osw c_1 (by decide)]; rw [lv_osw c_2 (by decide)]; rw [lv_osw c_3 (by decide)]; rw [lv_osw c_4 (by decide)]; rw [c_5]; rfl) (by decide) ?_
            refine lv_bipush (v := 33) hx hb dX3_ownTime_81 (by decide) ?_
            have ef : (f_X3_ownTime p0) = 33 := ((if_neg c_1).trans ((if_neg c_2).trans ((if_neg c_3).trans ((if_neg c_4).trans (if_pos c_5)))))
            exact gRetI F hr hlocks hK hP hD hS (by rw [ef]) rfl (Nat.le_of_ble_eq_true rfl) (Nat.le_of_ble_eq_true rfl) dX3_ownTime_83
          · skip
            refine lv_lookup (off := 80) (tgt := 84) hx hb dX3_ownTime_4 (by decide) (by rw [lv_osw c_1 (by decide)]; rw [lv_osw c_2 (by decide)]; rw [lv_osw c_3 (by decide)]; rw [lv_osw c_4 (by decide)]; rw [lv_osw c_5 (by decide)]; rfl) (by decide) ?_
            refine lv_iconst (v := 1) hx hb dX3_ownTime_84 (by decide) ?_
            have ef : (f_X3_ownTime p0) = 1 := ((if_neg c_1).trans ((if_neg c_2).trans ((if_neg c_3).trans ((if_neg c_4).trans (if_neg c_5)))))
            exact gRetI F hr hlocks hK hP hD hS (by rw [ef]) rfl (Nat.le_of_ble_eq_true rfl) (Nat.le_of_ble_eq_true rfl) dX3_ownTime_85
theorem okS_X3_ownTime : gOkS yX3_ownTime cX3_ownTime 1 (some .int) 1 := ⟨⟨k_st_X3_ownTime, k_in_X3, k_cd_X3_ownTime⟩, by decide, by decide, by decide +kernel⟩
def f_X5_wordAt (bits : Nat → Int32) (p0 : Int32) : Int32 :=
  (f_X6_wrap (Int32.toInt64 (bits (Int32.toNatClampNeg (p0 &&& 255)))))
set_option maxRecDepth 100000 in
set_option maxHeartbeats 4000000 in
theorem c_X5_wordAt (l : Launch) (G : gG) (a0 : Nat) (a1 : Nat) (a2 : Nat) (a3 : Nat) (bits : Nat → Int32) (dr : Int32) (p0 : Int32) : gM l G yX5_wordAt cX5_wordAt 2 (some .int) { frames := 1, cells := 0, slots := 0, locals := 22 } [.ref a0, .int p0] [(a0, .inr (7, [.ref a1, .ref a2, .ref a3, .int dr])), (a1, .inl (G.2.1.1, 256, .inl bits))] (some (.int (f_X5_wordAt bits p0))) [(a0, .inr (7, [.ref a1, .ref a2, .ref a3, .int dr])), (a1, .inl (G.2.1.1, 256, .inl bits))] 0 0 := by
  refine gBegin (by decide +kernel) (Nat.le_of_ble_eq_true rfl) (fun p e s m args below meth c A F hr hlocks hname hN hK hP hD hA hS ls hl => ?_)
  obtain ⟨hx, hb, hml, hown, hts⟩ := id F
  replace hP : va_P G.1 vwCl [(a0, .inr (7, [.ref a1, .ref a2, .ref a3, .int dr])), (a1, .inl (G.2.1.1, 256, .inl bits))] s.heap := hP
  replace hl : lv_has ls 2 [(0, .ref a0), (1, .int p0)] := hl
  refine lv_aload_n hx hb dX5_wordAt_0 rfl (lv_at hl 0 rfl) ?_
  refine va_get (D := G.1) (ci := 7) (v := .ref a1) (C := RX5) (T := TX5) (N := 4) hx hb hts in_X5 hown hK hP 0 rfl rfl 0 (by decide) (hts _ k_fl_X5_9) (fun _ h9 => h9) rfl dX5_wordAt_1 ?_
  refine lv_iload_n hx hb dX5_wordAt_4 rfl (lv_at hl 1 rfl) ?_
  refine lv_sipush (v := 255) hx hb dX5_wordAt_5 (by decide) ?_
  refine lv_iand hx hb dX5_wordAt_8 ?_
  refine va_iald hx hb hK hP 1 0 rfl rfl (pk_andIn _ 8 (by decide) (by decide)) dX5_wordAt_9 ?_
  refine lv_i2l (v := (Int32.toInt64 (bits (Int32.toNatClampNeg (p0 &&& 255))))) hx hb dX5_wordAt_10 rfl ?_
  refine gSN (As := [.long (Int32.toInt64 (bits (Int32.toNatClampNeg (p0 &&& 255))))]) (rest := []) (wr := [(a0, .inr (7, [.ref a1, .ref a2, .ref a3, .int dr])), (a1, .inl (G.2.1.1, 256, .inl bits))]) (ws' := [(a0, .inr (7, [.ref a1, .ref a2, .ref a3, .int dr])), (a1, .inl (G.2.1.1, 256, .inl bits))]) F (c_X6_wrap l G (Int32.toInt64 (bits (Int32.toNatClampNeg (p0 &&& 255))))) okS_X6_wrap kn_X5_21 rfl rfl ⟨Nat.le_of_ble_eq_true rfl, Nat.le_of_ble_eq_true rfl⟩ hN hK hP hD hS hA [] [0, 1] [0, 1] (by decide) rfl rfl (by decide) (by decide) (by decide) rfl rfl rfl hl.1 (Nat.le_of_ble_eq_true rfl) dX5_wordAt_11 ⟨Nat.le_refl _, Nat.le_refl _⟩ (fun H locs hP hD hS => ?_)
  exact gRetI F hr hlocks hK hP hD hS rfl rfl (Nat.le_of_ble_eq_true rfl) (Nat.le_of_ble_eq_true rfl) dX5_wordAt_14
theorem okV_X5_wordAt : gOkV yX5_wordAt cX5_wordAt 2 (some .int) 1 := ⟨⟨k_im_X5_wordAt, k_se_X5_wordAt, k_in_X5, k_cd_X5_wordAt⟩, by decide, by decide, by decide +kernel⟩
def f_X5_putWord (bits : Nat → Int32) (p0 : Int32) (p1 : Int32) : (Nat → Int32) :=
  (upd bits (Int32.toNatClampNeg (p0 &&& 255)) (p1 &&& 1048575))
set_option maxRecDepth 100000 in
set_option maxHeartbeats 4000000 in
theorem c_X5_putWord (l : Launch) (G : gG) (a0 : Nat) (a1 : Nat) (a2 : Nat) (a3 : Nat) (bits : Nat → Int32) (dr : Int32) (p0 : Int32) (p1 : Int32) : gM l G yX5_putWord cX5_putWord 3 none { frames := 0, cells := 0, slots := 0, locals := 0 } [.ref a0, .int p0, .int p1] [(a0, .inr (7, [.ref a1, .ref a2, .ref a3, .int dr])), (a1, .inl (G.2.1.1, 256, .inl bits))] none [(a0, .inr (7, [.ref a1, .ref a2, .ref a3, .int dr])), (a1, .inl (G.2.1.1, 256, .inl (f_X5_putWord bits p0 p1)))] 0 0 := by
  refine gBegin (by decide +kernel) (Nat.le_of_ble_eq_true rfl) (fun p e s m args below meth c A F hr hlocks hname hN hK hP hD hA hS ls hl => ?_)
  obtain ⟨hx, hb, hml, hown, hts⟩ := id F
  replace hP : va_P G.1 vwCl [(a0, .inr (7, [.ref a1, .ref a2, .ref a3, .int dr])), (a1, .inl (G.2.1.1, 256, .inl bits))] s.heap := hP
  replace hl : lv_has ls 3 [(0, .ref a0), (1, .int p0), (2, .int p1)] := hl
  refine lv_aload_n hx hb dX5_putWord_0 rfl (lv_at hl 0 rfl) ?_
  refine va_get (D := G.1) (ci := 7) (v := .ref a1) (C := RX5) (T := TX5) (N := 4) hx hb hts in_X5 hown hK hP 0 rfl rfl 0 (by decide) (hts _ k_fl_X5_9) (fun _ h9 => h9) rfl dX5_putWord_1 ?_
  refine lv_iload_n hx hb dX5_putWord_4 rfl (lv_at hl 1 rfl) ?_
  refine lv_sipush (v := 255) hx hb dX5_putWord_5 (by decide) ?_
  refine lv_iand hx hb dX5_putWord_8 ?_
  refine lv_iload_n hx hb dX5_putWord_9 rfl (lv_at hl 2 rfl) ?_
  refine lv_ldc (v := 1048575) hx hb hown (hts _ k_co_X5_25) dX5_putWord_10 ?_
  refine lv_iand hx hb dX5_putWord_12 ?_
  refine va_iast hx hb hK hP hD hS 1 0 rfl rfl (pk_andIn _ 8 (by decide) (by decide)) dX5_putWord_13 (fun H locs hP hD hS => ?_)
  replace hP : va_P G.1 vwCl [(a0, .inr (7, [.ref a1, .ref a2, .ref a3, .int dr])), (a1, .inl (G.2.1.1, 256, .inl (upd bits (Int32.toNatClampNeg (p0 &&& 255)) (p1 &&& 1048575))))] H := hP
  replace hD : va_D A [(a0, .inr (7, [.ref a1, .ref a2, .ref a3, .int dr])), (a1, .inl (G.2.1.1, 256, .inl (upd bits (Int32.toNatClampNeg (p0 &&& 255)) (p1 &&& 1048575))))] := hD
  exact gRetV F hr hlocks hK hP hD hS rfl rfl (Nat.le_of_ble_eq_true rfl) (Nat.le_of_ble_eq_true rfl) dX5_putWord_14
theorem okV_X5_putWord : gOkV yX5_putWord cX5_putWord 3 none 2 := ⟨⟨k_im_X5_putWord, k_se_X5_putWord, k_in_X5, k_cd_X5_putWord⟩, by decide, by decide, by decide +kernel⟩
def f_X5_slipCountOf (slips : Nat → Int32) (p0 : Int32) : Int32 :=
  (slips (Int32.toNatClampNeg (p0 &&& 7)))
set_option maxRecDepth 100000 in
set_option maxHeartbeats 4000000 in
theorem c_X5_slipCountOf (l : Launch) (G : gG) (a0 : Nat) (a1 : Nat) (a2 : Nat) (a3 : Nat) (slips : Nat → Int32) (dr : Int32) (p0 : Int32) : gM l G yX5_slipCountOf cX5_slipCountOf 2 (some .int) { frames := 0, cells := 0, slots := 0, locals := 0 } [.ref a0, .int p0] [(a0, .inr (7, [.ref a1, .ref a2, .ref a3, .int dr])), (a3, .inl (G.2.1.1, 8, .inl slips))] (some (.int (f_X5_slipCountOf slips p0))) [(a0, .inr (7, [.ref a1, .ref a2, .ref a3, .int dr])), (a3, .inl (G.2.1.1, 8, .inl slips))] 0 0 := by
  refine gBegin (by decide +kernel) (Nat.le_of_ble_eq_true rfl) (fun p e s m args below meth c A F hr hlocks hname hN hK hP hD hA hS ls hl => ?_)
  obtain ⟨hx, hb, hml, hown, hts⟩ := id F
  replace hP : va_P G.1 vwCl [(a0, .inr (7, [.ref a1, .ref a2, .ref a3, .int dr])), (a3, .inl (G.2.1.1, 8, .inl slips))] s.heap := hP
  replace hl : lv_has ls 2 [(0, .ref a0), (1, .int p0)] := hl
  refine lv_aload_n hx hb dX5_slipCountOf_0 rfl (lv_at hl 0 rfl) ?_
  refine va_get (D := G.1) (ci := 7) (v := .ref a3) (C := RX5) (T := TX5) (N := 4) hx hb hts in_X5 hown hK hP 0 rfl rfl 2 (by decide) (hts _ k_fl_X5_18) (fun _ h9 => h9) rfl dX5_slipCountOf_1 ?_
  refine lv_iload_n hx hb dX5_slipCountOf_4 rfl (lv_at hl 1 rfl) ?_
  refine lv_bipush (v := 7) hx hb dX5_slipCountOf_5 (by decide) ?_
  refine lv_iand hx hb dX5_slipCountOf_7 ?_
  refine va_iald hx hb hK hP 1 0 rfl rfl (pk_andIn _ 3 (by decide) (by decide)) dX5_slipCountOf_8 ?_
  exact gRetI F hr hlocks hK hP hD hS rfl rfl (Nat.le_of_ble_eq_true rfl) (Nat.le_of_ble_eq_true rfl) dX5_slipCountOf_9
theorem okV_X5_slipCountOf : gOkV yX5_slipCountOf cX5_slipCountOf 2 (some .int) 1 := ⟨⟨k_im_X5_slipCountOf, k_se_X5_slipCountOf, k_in_X5, k_cd_X5_slipCountOf⟩, by decide, by decide, by decide +kernel⟩
def f_X5_dropBit (bits : Nat → Int32) (dr : Int32) (p0 : Int32) (p1 : Int32) : Int32 × (Nat → Int32) :=
  if ((bits (Int32.toNatClampNeg ((f_X6_locationOf p0 (p1 / 20)) &&& 255))) &&& (((1 : Int32) <<< ((p1 % 20) &&& 31)) : Int32)) = 0 then
    (dr, bits)
  else
    ((dr + 1), (upd bits (Int32.toNatClampNeg ((f_X6_locationOf p0 (p1 / 20)) &&& 255)) ((bits (Int32.toNatClampNeg ((f_X6_locationOf p0 (p1 / 20)) &&& 255))) &&& ((((1 : Int32) <<< ((p1 % 20) &&& 31)) : Int32) ^^^ (-1)))))
set_option maxRecDepth 100000 in
set_option maxHeartbeats 4000000 in
theorem c_X5_dropBit (l : Launch) (G : gG) (a0 : Nat) (a1 : Nat) (a2 : Nat) (a3 : Nat) (bits : Nat → Int32) (dr : Int32) (p0 : Int32) (p1 : Int32) : gM l G yX5_dropBit cX5_dropBit 5 none { frames := 1, cells := 0, slots := 0, locals := 21 } [.ref a0, .int p0, .int p1] [(a0, .inr (7, [.ref a1, .ref a2, .ref a3, .int dr])), (a1, .inl (G.2.1.1, 256, .inl bits))] none [(a0, .inr (7, [.ref a1, .ref a2, .ref a3, .int ((f_X5_dropBit bits dr p0 p1).1)])), (a1, .inl (G.2.1.1, 256, .inl ((f_X5_dropBit bits dr p0 p1).2)))] 0 0 := by
  refine gBegin (by decide +kernel) (Nat.le_of_ble_eq_true rfl) (fun p e s m args below meth c A F hr hlocks hname hN hK hP hD hA hS ls hl => ?_)
  obtain ⟨hx, hb, hml, hown, hts⟩ := id F
  replace hP : va_P G.1 vwCl [(a0, .inr (7, [.ref a1, .ref a2, .ref a3, .int dr])), (a1, .inl (G.2.1.1, 256, .inl bits))] s.heap := hP
  replace hl : lv_has ls 5 [(0, .ref a0), (1, .int p0), (2, .int p1)] := hl
  refine lv_iload_n hx hb dX5_dropBit_0 rfl (lv_at hl 1 rfl) ?_
  refine lv_iload_n hx hb dX5_dropBit_1 rfl (lv_at hl 2 rfl) ?_
  refine lv_bipush (v := 20) hx hb dX5_dropBit_2 (by decide) ?_
  refine lv_idiv hx hb dX5_dropBit_4 (by decide) ?_
  refine gSN (As := [.int p0, .int (p1 / 20)]) (rest := []) (wr := [(a0, .inr (7, [.ref a1, .ref a2, .ref a3, .int dr])), (a1, .inl (G.2.1.1, 256, .inl bits))]) (ws' := [(a0, .inr (7, [.ref a1, .ref a2, .ref a3, .int dr])), (a1, .inl (G.2.1.1, 256, .inl bits))]) F (c_X6_locationOf l G p0 (p1 / 20)) okS_X6_locationOf kn_X5_26 rfl rfl ⟨Nat.le_of_ble_eq_true rfl, Nat.le_of_ble_eq_true rfl⟩ hN hK hP hD hS hA [] [0, 1] [0, 1] (by decide) rfl rfl (by decide) (by decide) (by decide) rfl rfl rfl hl.1 (Nat.le_of_ble_eq_true rfl) dX5_dropBit_5 ⟨Nat.le_refl _, Nat.le_refl _⟩ (fun H locs hP hD hS => ?_)
  refine lv_sipush (v := 255) hx hb dX5_dropBit_8 (by decide) ?_
  refine lv_iand hx hb dX5_dropBit_11 ?_
  refine lv_istore_n (lv' := [(3, .int ((f_X6_locationOf p0 (p1 / 20)) &&& 255)), (0, .ref a0), (1, .int p0), (2, .int p1)]) hx hb dX5_dropBit_12 rfl hl (by decide) rfl (fun ls hl => ?_)
  refine lv_iconst (v := 1) hx hb dX5_dropBit_13 (by decide) ?_
  refine lv_iload_n hx hb dX5_dropBit_14 rfl (lv_at hl 3 rfl) ?_
  refine lv_bipush (v := 20) hx hb dX5_dropBit_15 (by decide) ?_
  refine gIrem hx hb dX5_dropBit_17 (by decide) ?_
  refine lv_ishl hx hb dX5_dropBit_18 ?_
  refine lv_istore (lv' := [(4, .int (((1 : Int32) <<< ((p1 % 20) &&& 31)) : Int32)), (3, .int ((f_X6_locationOf p0 (p1 / 20)) &&& 255)), (0, .ref a0), (1, .int p0), (2, .int p1)]) hx hb dX5_dropBit_19 hl (by decide) rfl (fun ls hl => ?_)
  refine lv_aload_n hx hb dX5_dropBit_21 rfl (lv_at hl 2 rfl) ?_
  refine va_get (D := G.1) (ci := 7) (v := .ref a1) (C := RX5) (T := TX5) (N := 4) hx hb hts in_X5 hown hK hP 0 rfl rfl 0 (by decide) (hts _ k_fl_X5_9) (fun _ h9 => h9) rfl dX5_dropBit_22 ?_
  refine lv_iload_n hx hb dX5_dropBit_25 rfl (lv_at hl 1 rfl) ?_
  refine va_iald hx hb hK hP 1 0 rfl rfl (pk_andIn _ 8 (by decide) (by decide)) dX5_dropBit_26 ?_
  refine lv_iload hx hb dX5_dropBit_27 (lv_at hl 0 rfl) ?_
  refine lv_iand hx hb dX5_dropBit_29 ?_
  refine lv_if_eq (tgt := 56) hx hb dX5_dropBit_30 (by decide) (fun c_1 => ?_) (fun c_1 => ?_)
  · skip
    have ef : (f_X5_dropBit bits dr p0 p1) = (dr, bits) := (if_pos c_1)
    exact gRetV F hr hlocks hK hP hD hS rfl (by rw [ef]) (Nat.le_of_ble_eq_true rfl) (Nat.le_of_ble_eq_true rfl) dX5_dropBit_56
  · skip
    refine lv_aload_n hx hb dX5_dropBit_33 rfl (lv_at hl 2 rfl) ?_
    refine va_get (D := G.1) (ci := 7) (v := .ref a1) (C := RX5) (T := TX5) (N := 4) hx hb hts in_X5 hown hK hP 0 rfl rfl 0 (by decide) (hts _ k_fl_X5_9) (fun _ h9 => h9) rfl dX5_dropBit_34 ?_
    refine lv_iload_n hx hb dX5_dropBit_37 rfl (lv_at hl 1 rfl) ?_
    refine lv_dup2_11 hx hb dX5_dropBit_38 rfl rfl ?_
    refine va_iald hx hb hK hP 1 0 rfl rfl (pk_andIn _ 8 (by decide) (by decide)) dX5_dropBit_39 ?_
    refine lv_iload hx hb dX5_dropBit_40 (lv_at hl 0 rfl) ?_
    refine lv_iconst (v := (-1)) hx hb dX5_dropBit_42 (by decide) ?_
    refine lv_ixor hx hb dX5_dropBit_43 ?_
    refine lv_iand hx hb dX5_dropBit_44 ?_
    refine va_iast hx hb hK hP hD hS 1 0 rfl rfl (pk_andIn _ 8 (by decide) (by decide)) dX5_dropBit_45 (fun H locs hP hD hS => ?_)
    replace hP : va_P G.1 vwCl [(a0, .inr (7, [.ref a1, .ref a2, .ref a3, .int dr])), (a1, .inl (G.2.1.1, 256, .inl (upd bits (Int32.toNatClampNeg ((f_X6_locationOf p0 (p1 / 20)) &&& 255)) ((bits (Int32.toNatClampNeg ((f_X6_locationOf p0 (p1 / 20)) &&& 255))) &&& ((((1 : Int32) <<< ((p1 % 20) &&& 31)) : Int32) ^^^ (-1))))))] H := hP
    replace hD : va_D A [(a0, .inr (7, [.ref a1, .ref a2, .ref a3, .int dr])), (a1, .inl (G.2.1.1, 256, .inl (upd bits (Int32.toNatClampNeg ((f_X6_locationOf p0 (p1 / 20)) &&& 255)) ((bits (Int32.toNatClampNeg ((f_X6_locationOf p0 (p1 / 20)) &&& 255))) &&& ((((1 : Int32) <<< ((p1 % 20) &&& 31)) : Int32) ^^^ (-1))))))] := hD
    refine lv_aload_n hx hb dX5_dropBit_46 rfl (lv_at hl 2 rfl) ?_
    refine lv_dup hx hb dX5_dropBit_47 rfl ?_
    refine va_get (D := G.1) (ci := 7) (v := .int dr) (C := RX5) (T := TX5) (N := 4) hx hb hts in_X5 hown hK hP 0 rfl rfl 3 (by decide) (hts _ k_fl_X5_57) (fun _ h9 => h9) rfl dX5_dropBit_48 ?_
    refine lv_iconst (v := 1) hx hb dX5_dropBit_51 (by decide) ?_
    refine lv_iadd hx hb dX5_dropBit_52 ?_
    refine va_put (D := G.1) (ci := 7) (v := .int (dr + 1)) (ty := .int) (C := RX5) (T := TX5) (N := 4) hx hb hts in_X5 tyX5 tyX5_ok nmX5 hown hK hP hD hS 0 rfl rfl 3 (by decide) (hts _ k_fl_X5_57) (fun _ h9 => h9) rfl (by decide +kernel) rfl rfl (Nat.le_of_ble_eq_true rfl) dX5_dropBit_53 (fun H locs hP hD hS => ?_)
    replace hP : va_P G.1 vwCl [(a0, .inr (7, [.ref a1, .ref a2, .ref a3, .int (dr + 1)])), (a1, .inl (G.2.1.1, 256, .inl (upd bits (Int32.toNatClampNeg ((f_X6_locationOf p0 (p1 / 20)) &&& 255)) ((bits (Int32.toNatClampNeg ((f_X6_locationOf p0 (p1 / 20)) &&& 255))) &&& ((((1 : Int32) <<< ((p1 % 20) &&& 31)) : Int32) ^^^ (-1))))))] H := hP
    replace hD : va_D A [(a0, .inr (7, [.ref a1, .ref a2, .ref a3, .int (dr + 1)])), (a1, .inl (G.2.1.1, 256, .inl (upd bits (Int32.toNatClampNeg ((f_X6_locationOf p0 (p1 / 20)) &&& 255)) ((bits (Int32.toNatClampNeg ((f_X6_locationOf p0 (p1 / 20)) &&& 255))) &&& ((((1 : Int32) <<< ((p1 % 20) &&& 31)) : Int32) ^^^ (-1))))))] := hD
    have ef : (f_X5_dropBit bits dr p0 p1) = ((dr + 1), (upd bits (Int32.toNatClampNeg ((f_X6_locationOf p0 (p1 / 20)) &&& 255)) ((bits (Int32.toNatClampNeg ((f_X6_locationOf p0 (p1 / 20)) &&& 255))) &&& ((((1 : Int32) <<< ((p1 % 20) &&& 31)) : Int32) ^^^ (-1))))) := (if_neg c_1)
    exact gRetV F hr hlocks hK hP hD hS rfl (by rw [ef]) (Nat.le_of_ble_eq_true rfl) (Nat.le_of_ble_eq_true rfl) dX5_dropBit_56
theorem okV_X5_dropBit : gOkV yX5_dropBit cX5_dropBit 5 none 2 := ⟨⟨k_im_X5_dropBit, k_se_X5_dropBit, k_in_X5, k_cd_X5_dropBit⟩, by decide, by decide, by decide +kernel⟩
def f_X1_temperatureOf (temps : Nat → Int32) (p0 : Int32) : Int32 :=
  (temps (Int32.toNatClampNeg (p0 &&& 7)))
set_option maxRecDepth 100000 in
set_option maxHeartbeats 4000000 in
theorem c_X1_temperatureOf (l : Launch) (G : gG) (a0 : Nat) (a1 : Nat) (pt : Int32) (ot : Int32) (fp : Int32) (on : Int32) (temps : Nat → Int32) (p0 : Int32) : gM l G yX1_temperatureOf cX1_temperatureOf 2 (some .int) { frames := 0, cells := 0, slots := 0, locals := 0 } [.ref a0, .int p0] [(a0, .inr (4, [.ref a1, .int pt, .int ot, .int fp, .int on])), (a1, .inl (G.2.1.1, 8, .inl temps))] (some (.int (f_X1_temperatureOf temps p0))) [(a0, .inr (4, [.ref a1, .int pt, .int ot, .int fp, .int on])), (a1, .inl (G.2.1.1, 8, .inl temps))] 0 0 := by
  refine gBegin (by decide +kernel) (Nat.le_of_ble_eq_true rfl) (fun p e s m args below meth c A F hr hlocks hname hN hK hP hD hA hS ls hl => ?_)
  obtain ⟨hx, hb, hml, hown, hts⟩ := id F
  replace hP : va_P G.1 vwCl [(a0, .inr (4, [.ref a1, .int pt, .int ot, .int fp, .int on])), (a1, .inl (G.2.1.1, 8, .inl temps))] s.heap := hP
  replace hl : lv_has ls 2 [(0, .ref a0), (1, .int p0)] := hl
  refine lv_aload_n hx hb dX1_temperatureOf_0 rfl (lv_at hl 0 rfl) ?_
  refine va_get (D := G.1) (ci := 4) (v := .ref a1) (C := RX1) (T := TX1) (N := 5) hx hb hts in_X1 hown hK hP 0 rfl rfl 0 (by decide) (hts _ k_fl_X1_9) (fun _ h9 => h9) rfl dX1_temperatureOf_1 ?_
  refine lv_iload_n hx hb dX1_temperatureOf_4 rfl (lv_at hl 1 rfl) ?_
  refine lv_bipush (v := 7) hx hb dX1_temperatureOf_5 (by decide) ?_
  refine lv_iand hx hb dX1_temperatureOf_7 ?_
  refine va_iald hx hb hK hP 1 0 rfl rfl (pk_andIn _ 3 (by decide) (by decide)) dX1_temperatureOf_8 ?_
  exact gRetI F hr hlocks hK hP hD hS rfl rfl (Nat.le_of_ble_eq_true rfl) (Nat.le_of_ble_eq_true rfl) dX1_temperatureOf_9
theorem okV_X1_temperatureOf : gOkV yX1_temperatureOf cX1_temperatureOf 2 (some .int) 1 := ⟨⟨k_im_X1_temperatureOf, k_se_X1_temperatureOf, k_in_X1, k_cd_X1_temperatureOf⟩, by decide, by decide, by decide +kernel⟩
def f_X1_putTemperature (temps : Nat → Int32) (p0 : Int32) (p1 : Int32) : (Nat → Int32) :=
  (upd temps (Int32.toNatClampNeg (p0 &&& 7)) p1)
set_option maxRecDepth 100000 in
set_option maxHeartbeats 4000000 in
theorem c_X1_putTemperature (l : Launch) (G : gG) (a0 : Nat) (a1 : Nat) (pt : Int32) (ot : Int32) (fp : Int32) (on : Int32) (temps : Nat → Int32) (p0 : Int32) (p1 : Int32) : gM l G yX1_putTemperature cX1_putTemperature 3 none { frames := 0, cells := 0, slots := 0, locals := 0 } [.ref a0, .int p0, .int p1] [(a0, .inr (4, [.ref a1, .int pt, .int ot, .int fp, .int on])), (a1, .inl (G.2.1.1, 8, .inl temps))] none [(a0, .inr (4, [.ref a1, .int pt, .int ot, .int fp, .int on])), (a1, .inl (G.2.1.1, 8, .inl (f_X1_putTemperature temps p0 p1)))] 0 0 := by
  refine gBegin (by decide +kernel) (Nat.le_of_ble_eq_true rfl) (fun p e s m args below meth c A F hr hlocks hname hN hK hP hD hA hS ls hl => ?_)
  obtain ⟨hx, hb, hml, hown, hts⟩ := id F
  replace hP : va_P G.1 vwCl [(a0, .inr (4, [.ref a1, .int pt, .int ot, .int fp, .int on])), (a1, .inl (G.2.1.1, 8, .inl temps))] s.heap := hP
  replace hl : lv_has ls 3 [(0, .ref a0), (1, .int p0), (2, .int p1)] := hl
  refine lv_aload_n hx hb dX1_putTemperature_0 rfl (lv_at hl 0 rfl) ?_
  refine va_get (D := G.1) (ci := 4) (v := .ref a1) (C := RX1) (T := TX1) (N := 5) hx hb hts in_X1 hown hK hP 0 rfl rfl 0 (by decide) (hts _ k_fl_X1_9) (fun _ h9 => h9) rfl dX1_putTemperature_1 ?_
  refine lv_iload_n hx hb dX1_putTemperature_4 rfl (lv_at hl 1 rfl) ?_
  refine lv_bipush (v := 7) hx hb dX1_putTemperature_5 (by decide) ?_
  refine lv_iand hx hb dX1_putTemperature_7 ?_
  refine lv_iload_n hx hb dX1_putTemperature_8 rfl (lv_at hl 2 rfl) ?_
  refine va_iast hx hb hK hP hD hS 1 0 rfl rfl (pk_andIn _ 3 (by decide) (by decide)) dX1_putTemperature_9 (fun H locs hP hD hS => ?_)
  replace hP : va_P G.1 vwCl [(a0, .inr (4, [.ref a1, .int pt, .int ot, .int fp, .int on])), (a1, .inl (G.2.1.1, 8, .inl (upd temps (Int32.toNatClampNeg (p0 &&& 7)) p1)))] H := hP
  replace hD : va_D A [(a0, .inr (4, [.ref a1, .int pt, .int ot, .int fp, .int on])), (a1, .inl (G.2.1.1, 8, .inl (upd temps (Int32.toNatClampNeg (p0 &&& 7)) p1)))] := hD
  exact gRetV F hr hlocks hK hP hD hS rfl rfl (Nat.le_of_ble_eq_true rfl) (Nat.le_of_ble_eq_true rfl) dX1_putTemperature_10
theorem okV_X1_putTemperature : gOkV yX1_putTemperature cX1_putTemperature 3 none 2 := ⟨⟨k_im_X1_putTemperature, k_se_X1_putTemperature, k_in_X1, k_cd_X1_putTemperature⟩, by decide, by decide, by decide +kernel⟩
def f_X1_exchange (temps : Nat → Int32) (p0 : Int32) (p1 : Int32) : (Nat → Int32) :=
  (f_X1_putTemperature (f_X1_putTemperature temps p0 (f_X1_temperatureOf temps p1)) p1 (f_X1_temperatureOf temps p0))
set_option maxRecDepth 100000 in
set_option maxHeartbeats 4000000 in
theorem c_X1_exchange (l : Launch) (G : gG) (a0 : Nat) (a1 : Nat) (pt : Int32) (ot : Int32) (fp : Int32) (on : Int32) (temps : Nat → Int32) (p0 : Int32) (p1 : Int32) : gM l G yX1_exchange cX1_exchange 4 none { frames := 1, cells := 0, slots := 0, locals := 22 } [.ref a0, .int p0, .int p1] [(a0, .inr (4, [.ref a1, .int pt, .int ot, .int fp, .int on])), (a1, .inl (G.2.1.1, 8, .inl temps))] none [(a0, .inr (4, [.ref a1, .int pt, .int ot, .int fp, .int on])), (a1, .inl (G.2.1.1, 8, .inl (f_X1_exchange temps p0 p1)))] 0 0 := by
  refine gBegin (by decide +kernel) (Nat.le_of_ble_eq_true rfl) (fun p e s m args below meth c A F hr hlocks hname hN hK hP hD hA hS ls hl => ?_)
  obtain ⟨hx, hb, hml, hown, hts⟩ := id F
  replace hP : va_P G.1 vwCl [(a0, .inr (4, [.ref a1, .int pt, .int ot, .int fp, .int on])), (a1, .inl (G.2.1.1, 8, .inl temps))] s.heap := hP
  replace hl : lv_has ls 4 [(0, .ref a0), (1, .int p0), (2, .int p1)] := hl
  refine lv_aload_n hx hb dX1_exchange_0 rfl (lv_at hl 0 rfl) ?_
  refine lv_iload_n hx hb dX1_exchange_1 rfl (lv_at hl 1 rfl) ?_
  refine gV (As := [.int p0]) (rest := []) (wr := []) (ws' := [(a0, .inr (4, [.ref a1, .int pt, .int ot, .int fp, .int on])), (a1, .inl (G.2.1.1, 8, .inl temps))]) F (c_X1_temperatureOf l G a0 a1 pt ot fp on temps p0) okV_X1_temperatureOf k_ml_X1_26 rfl rfl ⟨Nat.le_of_ble_eq_true rfl, Nat.le_of_ble_eq_true rfl⟩ hN hK hP hD hS hA [0, 1] [] [0, 1] (by decide) rfl rfl (by decide) (by decide) (by decide) rfl (q0 := 0) rfl rfl rfl rfl hl.1 (Nat.le_of_ble_eq_true rfl) dX1_exchange_2 ⟨Nat.le_refl _, Nat.le_refl _⟩ (fun H locs hP hD hS => ?_)
  refine lv_istore_n (lv' := [(3, .int (f_X1_temperatureOf temps p0)), (0, .ref a0), (1, .int p0), (2, .int p1)]) hx hb dX1_exchange_5 rfl hl (by decide) rfl (fun ls hl => ?_)
  refine lv_aload_n hx hb dX1_exchange_6 rfl (lv_at hl 1 rfl) ?_
  refine lv_iload_n hx hb dX1_exchange_7 rfl (lv_at hl 2 rfl) ?_
  refine lv_aload_n hx hb dX1_exchange_8 rfl (lv_at hl 1 rfl) ?_
  refine lv_iload_n hx hb dX1_exchange_9 rfl (lv_at hl 3 rfl) ?_
  refine gV (As := [.int p1]) (rest := [.int p0, .ref a0]) (wr := []) (ws' := [(a0, .inr (4, [.ref a1, .int pt, .int ot, .int fp, .int on])), (a1, .inl (G.2.1.1, 8, .inl temps))]) F (c_X1_temperatureOf l G a0 a1 pt ot fp on temps p1) okV_X1_temperatureOf k_ml_X1_26 rfl rfl ⟨Nat.le_of_ble_eq_true rfl, Nat.le_of_ble_eq_true rfl⟩ hN hK hP hD hS hA [0, 1] [] [0, 1] (by decide) rfl rfl (by decide) (by decide) (by decide) rfl (q0 := 0) rfl rfl rfl rfl hl.1 (Nat.le_of_ble_eq_true rfl) dX1_exchange_10 ⟨Nat.le_refl _, Nat.le_refl _⟩ (fun H locs hP hD hS => ?_)
  refine gV (As := [.int p0, .int (f_X1_temperatureOf temps p1)]) (rest := []) (wr := []) (ws' := [(a0, .inr (4, [.ref a1, .int pt, .int ot, .int fp, .int on])), (a1, .inl (G.2.1.1, 8, .inl (f_X1_putTemperature temps p0 (f_X1_temperatureOf temps p1))))]) F (c_X1_putTemperature l G a0 a1 pt ot fp on temps p0 (f_X1_temperatureOf temps p1)) okV_X1_putTemperature k_ml_X1_30 rfl rfl ⟨Nat.le_of_ble_eq_true rfl, Nat.le_of_ble_eq_true rfl⟩ hN hK hP hD hS hA [0, 1] [] [0, 1] (by decide) rfl rfl (by decide) (by decide) (by decide) rfl (q0 := 0) rfl rfl rfl rfl hl.1 (Nat.le_of_ble_eq_true rfl) dX1_exchange_13 ⟨Nat.le_refl _, Nat.le_refl _⟩ (fun H locs hP hD hS => ?_)
  refine lv_aload_n hx hb dX1_exchange_16 rfl (lv_at hl 1 rfl) ?_
  refine lv_iload_n hx hb dX1_exchange_17 rfl (lv_at hl 3 rfl) ?_
  refine lv_iload_n hx hb dX1_exchange_18 rfl (lv_at hl 0 rfl) ?_
  refine gV (As := [.int p1, .int (f_X1_temperatureOf temps p0)]) (rest := []) (wr := []) (ws' := [(a0, .inr (4, [.ref a1, .int pt, .int ot, .int fp, .int on])), (a1, .inl (G.2.1.1, 8, .inl (f_X1_putTemperature (f_X1_putTemperature temps p0 (f_X1_temperatureOf temps p1)) p1 (f_X1_temperatureOf temps p0))))]) F (c_X1_putTemperature l G a0 a1 pt ot fp on (f_X1_putTemperature temps p0 (f_X1_temperatureOf temps p1)) p1 (f_X1_temperatureOf temps p0)) okV_X1_putTemperature k_ml_X1_30 rfl rfl ⟨Nat.le_of_ble_eq_true rfl, Nat.le_of_ble_eq_true rfl⟩ hN hK hP hD hS hA [0, 1] [] [0, 1] (by decide) rfl rfl (by decide) (by decide) (by decide) rfl (q0 := 0) rfl rfl rfl rfl hl.1 (Nat.le_of_ble_eq_true rfl) dX1_exchange_19 ⟨Nat.le_refl _, Nat.le_refl _⟩ (fun H locs hP hD hS => ?_)
  exact gRetV F hr hlocks hK hP hD hS rfl rfl (Nat.le_of_ble_eq_true rfl) (Nat.le_of_ble_eq_true rfl) dX1_exchange_22
theorem okV_X1_exchange : gOkV yX1_exchange cX1_exchange 4 none 2 := ⟨⟨k_im_X1_exchange, k_se_X1_exchange, k_in_X1, k_cd_X1_exchange⟩, by decide, by decide, by decide +kernel⟩
def f_X1_clockPeriod (pt : Int32) (fp : Int32) (on : Int32) : Int32 :=
  if on = 0 then
    fp
  else
    ((f_X6_delayOf pt) / 640)
set_option maxRecDepth 100000 in
set_option maxHeartbeats 4000000 in
theorem c_X1_clockPeriod (l : Launch) (G : gG) (a0 : Nat) (a1 : Nat) (pt : Int32) (ot : Int32) (fp : Int32) (on : Int32) : gM l G yX1_clockPeriod cX1_clockPeriod 1 (some .int) { frames := 1, cells := 0, slots := 0, locals := 20 } [.ref a0] [(a0, .inr (4, [.ref a1, .int pt, .int ot, .int fp, .int on]))] (some (.int (f_X1_clockPeriod pt fp on))) [(a0, .inr (4, [.ref a1, .int pt, .int ot, .int fp, .int on]))] 0 0 := by
  refine gBegin (by decide +kernel) (Nat.le_of_ble_eq_true rfl) (fun p e s m args below meth c A F hr hlocks hname hN hK hP hD hA hS ls hl => ?_)
  obtain ⟨hx, hb, hml, hown, hts⟩ := id F
  replace hP : va_P G.1 vwCl [(a0, .inr (4, [.ref a1, .int pt, .int ot, .int fp, .int on]))] s.heap := hP
  replace hl : lv_has ls 1 [(0, .ref a0)] := hl
  refine lv_aload_n hx hb dX1_clockPeriod_0 rfl (lv_at hl 0 rfl) ?_
  refine va_get (D := G.1) (ci := 4) (v := .int on) (C := RX1) (T := TX1) (N := 5) hx hb hts in_X1 hown hK hP 0 rfl rfl 4 (by decide) (hts _ k_fl_X1_34) (fun _ h9 => h9) rfl dX1_clockPeriod_1 ?_
  refine lv_if_eq (tgt := 21) hx hb dX1_clockPeriod_4 (by decide) (fun c_1 => ?_) (fun c_1 => ?_)
  · skip
    refine lv_aload_n hx hb dX1_clockPeriod_21 rfl (lv_at hl 0 rfl) ?_
    refine va_get (D := G.1) (ci := 4) (v := .int fp) (C := RX1) (T := TX1) (N := 5) hx hb hts in_X1 hown hK hP 0 rfl rfl 3 (by decide) (hts _ k_fl_X1_23) (fun _ h9 => h9) rfl dX1_clockPeriod_22 ?_
    have ef : (f_X1_clockPeriod pt fp on) = fp := (if_pos c_1)
    exact gRetI F hr hlocks hK hP hD hS (by rw [ef]) rfl (Nat.le_of_ble_eq_true rfl) (Nat.le_of_ble_eq_true rfl) dX1_clockPeriod_25
  · skip
    refine lv_aload_n hx hb dX1_clockPeriod_7 rfl (lv_at hl 0 rfl) ?_
    refine va_get (D := G.1) (ci := 4) (v := .int pt) (C := RX1) (T := TX1) (N := 5) hx hb hts in_X1 hown hK hP 0 rfl rfl 1 (by decide) (hts _ k_fl_X1_15) (fun _ h9 => h9) rfl dX1_clockPeriod_8 ?_
    refine gSN (As := [.int pt]) (rest := []) (wr := [(a0, .inr (4, [.ref a1, .int pt, .int ot, .int fp, .int on]))]) (ws' := [(a0, .inr (4, [.ref a1, .int pt, .int ot, .int fp, .int on]))]) F (c_X6_delayOf l G pt) okS_X6_delayOf kn_X1_38 rfl rfl ⟨Nat.le_of_ble_eq_true rfl, Nat.le_of_ble_eq_true rfl⟩ hN hK hP hD hS hA [] [0] [0] (by decide) rfl rfl (by decide) (by decide) (by decide) rfl rfl rfl hl.1 (Nat.le_of_ble_eq_true rfl) dX1_clockPeriod_11 ⟨Nat.le_refl _, Nat.le_refl _⟩ (fun H locs hP hD hS => ?_)
    refine lv_sipush (v := 640) hx hb dX1_clockPeriod_14 (by decide) ?_
    refine lv_idiv hx hb dX1_clockPeriod_17 (by decide) ?_
    refine lv_goto (tgt := 25) hx hb dX1_clockPeriod_18 (by decide) ?_
    have ef : (f_X1_clockPeriod pt fp on) = ((f_X6_delayOf pt) / 640) := (if_neg c_1)
    exact gRetI F hr hlocks hK hP hD hS (by rw [ef]) rfl (Nat.le_of_ble_eq_true rfl) (Nat.le_of_ble_eq_true rfl) dX1_clockPeriod_25
theorem okV_X1_clockPeriod : gOkV yX1_clockPeriod cX1_clockPeriod 1 (some .int) 0 := ⟨⟨k_im_X1_clockPeriod, k_se_X1_clockPeriod, k_in_X1, k_cd_X1_clockPeriod⟩, by decide, by decide, by decide +kernel⟩
def f_X4_isFull (len : Int32) : Int32 :=
  if len < 64 then
    0
  else
    1
set_option maxRecDepth 100000 in
set_option maxHeartbeats 4000000 in
theorem c_X4_isFull (l : Launch) (G : gG) (a0 : Nat) (a1 : Nat) (first : Int32) (len : Int32) : gM l G yX4_isFull cX4_isFull 1 (some .boolean) { frames := 0, cells := 0, slots := 0, locals := 0 } [.ref a0] [(a0, .inr (6, [.ref a1, .int first, .int len]))] (some (.int (f_X4_isFull len))) [(a0, .inr (6, [.ref a1, .int first, .int len]))] 0 0 := by
  refine gBegin (by decide +kernel) (Nat.le_of_ble_eq_true rfl) (fun p e s m args below meth c A F hr hlocks hname hN hK hP hD hA hS ls hl => ?_)
  obtain ⟨hx, hb, hml, hown, hts⟩ := id F
  replace hP : va_P G.1 vwCl [(a0, .inr (6, [.ref a1, .int first, .int len]))] s.heap := hP
  replace hl : lv_has ls 1 [(0, .ref a0)] := hl
  refine lv_aload_n hx hb dX4_isFull_0 rfl (lv_at hl 0 rfl) ?_
  refine va_get (D := G.1) (ci := 6) (v := .int len) (C := RX4) (T := TX4) (N := 3) hx hb hts in_X4 hown hK hP 0 rfl rfl 2 (by decide) (hts _ k_fl_X4_15) (fun _ h9 => h9) rfl dX4_isFull_1 ?_
  refine lv_bipush (v := 64) hx hb dX4_isFull_4 (by decide) ?_
  refine lv_icmp_lt (tgt := 13) hx hb dX4_isFull_6 (by decide) (fun c_1 => ?_) (fun c_1 => ?_)
  · skip
    refine lv_iconst (v := 0) hx hb dX4_isFull_13 (by decide) ?_
    have ef : (f_X4_isFull len) = 0 := (if_pos c_1)
    exact gRetZ F hr hlocks hK hP hD hS rfl (by rw [ef]) rfl (Nat.le_of_ble_eq_true rfl) (Nat.le_of_ble_eq_true rfl) dX4_isFull_14
  · skip
    refine lv_iconst (v := 1) hx hb dX4_isFull_9 (by decide) ?_
    refine lv_goto (tgt := 14) hx hb dX4_isFull_10 (by decide) ?_
    have ef : (f_X4_isFull len) = 1 := (if_neg c_1)
    exact gRetZ F hr hlocks hK hP hD hS rfl (by rw [ef]) rfl (Nat.le_of_ble_eq_true rfl) (Nat.le_of_ble_eq_true rfl) dX4_isFull_14
theorem okV_X4_isFull : gOkV yX4_isFull cX4_isFull 1 (some .boolean) 0 := ⟨⟨k_im_X4_isFull, k_se_X4_isFull, k_in_X4, k_cd_X4_isFull⟩, by decide, by decide, by decide +kernel⟩
def f_X4_addLast (first : Int32) (len : Int32) (ring : Nat → Int32) (p0 : Int32) : Int32 × (Nat → Int32) :=
  ((len + 1), (upd ring (Int32.toNatClampNeg ((first + len) &&& 63)) p0))
set_option maxRecDepth 100000 in
set_option maxHeartbeats 4000000 in
theorem c_X4_addLast (l : Launch) (G : gG) (a0 : Nat) (a1 : Nat) (first : Int32) (len : Int32) (ring : Nat → Int32) (p0 : Int32) : gM l G yX4_addLast cX4_addLast 2 none { frames := 0, cells := 0, slots := 0, locals := 0 } [.ref a0, .int p0] [(a0, .inr (6, [.ref a1, .int first, .int len])), (a1, .inl (G.2.1.1, 64, .inl ring))] none [(a0, .inr (6, [.ref a1, .int first, .int ((f_X4_addLast first len ring p0).1)])), (a1, .inl (G.2.1.1, 64, .inl ((f_X4_addLast first len ring p0).2)))] 0 0 := by
  refine gBegin (by decide +kernel) (Nat.le_of_ble_eq_true rfl) (fun p e s m args below meth c A F hr hlocks hname hN hK hP hD hA hS ls hl => ?_)
  obtain ⟨hx, hb, hml, hown, hts⟩ := id F
  replace hP : va_P G.1 vwCl [(a0, .inr (6, [.ref a1, .int first, .int len])), (a1, .inl (G.2.1.1, 64, .inl ring))] s.heap := hP
  replace hl : lv_has ls 2 [(0, .ref a0), (1, .int p0)] := hl
  refine lv_aload_n hx hb dX4_addLast_0 rfl (lv_at hl 0 rfl) ?_
  refine va_get (D := G.1) (ci := 6) (v := .ref a1) (C := RX4) (T := TX4) (N := 3) hx hb hts in_X4 hown hK hP 0 rfl rfl 0 (by decide) (hts _ k_fl_X4_9) (fun _ h9 => h9) rfl dX4_addLast_1 ?_
  refine lv_aload_n hx hb dX4_addLast_4 rfl (lv_at hl 0 rfl) ?_
  refine va_get (D := G.1) (ci := 6) (v := .int first) (C := RX4) (T := TX4) (N := 3) hx hb hts in_X4 hown hK hP 0 rfl rfl 1 (by decide) (hts _ k_fl_X4_19) (fun _ h9 => h9) rfl dX4_addLast_5 ?_
  refine lv_aload_n hx hb dX4_addLast_8 rfl (lv_at hl 0 rfl) ?_
  refine va_get (D := G.1) (ci := 6) (v := .int len) (C := RX4) (T := TX4) (N := 3) hx hb hts in_X4 hown hK hP 0 rfl rfl 2 (by decide) (hts _ k_fl_X4_15) (fun _ h9 => h9) rfl dX4_addLast_9 ?_
  refine lv_iadd hx hb dX4_addLast_12 ?_
  refine lv_bipush (v := 63) hx hb dX4_addLast_13 (by decide) ?_
  refine lv_iand hx hb dX4_addLast_15 ?_
  refine lv_iload_n hx hb dX4_addLast_16 rfl (lv_at hl 1 rfl) ?_
  refine va_iast hx hb hK hP hD hS 1 0 rfl rfl (pk_andIn _ 6 (by decide) (by decide)) dX4_addLast_17 (fun H locs hP hD hS => ?_)
  replace hP : va_P G.1 vwCl [(a0, .inr (6, [.ref a1, .int first, .int len])), (a1, .inl (G.2.1.1, 64, .inl (upd ring (Int32.toNatClampNeg ((first + len) &&& 63)) p0)))] H := hP
  replace hD : va_D A [(a0, .inr (6, [.ref a1, .int first, .int len])), (a1, .inl (G.2.1.1, 64, .inl (upd ring (Int32.toNatClampNeg ((first + len) &&& 63)) p0)))] := hD
  refine lv_aload_n hx hb dX4_addLast_18 rfl (lv_at hl 0 rfl) ?_
  refine lv_dup hx hb dX4_addLast_19 rfl ?_
  refine va_get (D := G.1) (ci := 6) (v := .int len) (C := RX4) (T := TX4) (N := 3) hx hb hts in_X4 hown hK hP 0 rfl rfl 2 (by decide) (hts _ k_fl_X4_15) (fun _ h9 => h9) rfl dX4_addLast_20 ?_
  refine lv_iconst (v := 1) hx hb dX4_addLast_23 (by decide) ?_
  refine lv_iadd hx hb dX4_addLast_24 ?_
  refine va_put (D := G.1) (ci := 6) (v := .int (len + 1)) (ty := .int) (C := RX4) (T := TX4) (N := 3) hx hb hts in_X4 tyX4 tyX4_ok nmX4 hown hK hP hD hS 0 rfl rfl 2 (by decide) (hts _ k_fl_X4_15) (fun _ h9 => h9) rfl (by decide +kernel) rfl rfl (Nat.le_of_ble_eq_true rfl) dX4_addLast_25 (fun H locs hP hD hS => ?_)
  replace hP : va_P G.1 vwCl [(a0, .inr (6, [.ref a1, .int first, .int (len + 1)])), (a1, .inl (G.2.1.1, 64, .inl (upd ring (Int32.toNatClampNeg ((first + len) &&& 63)) p0)))] H := hP
  replace hD : va_D A [(a0, .inr (6, [.ref a1, .int first, .int (len + 1)])), (a1, .inl (G.2.1.1, 64, .inl (upd ring (Int32.toNatClampNeg ((first + len) &&& 63)) p0)))] := hD
  exact gRetV F hr hlocks hK hP hD hS rfl rfl (Nat.le_of_ble_eq_true rfl) (Nat.le_of_ble_eq_true rfl) dX4_addLast_28
theorem okV_X4_addLast : gOkV yX4_addLast cX4_addLast 2 none 1 := ⟨⟨k_im_X4_addLast, k_se_X4_addLast, k_in_X4, k_cd_X4_addLast⟩, by decide, by decide, by decide +kernel⟩
def f_X4_removeFirst (first : Int32) (len : Int32) (ring : Nat → Int32) : Int32 × Int32 × Int32 :=
  ((ring (Int32.toNatClampNeg (first &&& 63))), ((first + 1) &&& 63), (len - 1))
set_option maxRecDepth 100000 in
set_option maxHeartbeats 4000000 in
theorem c_X4_removeFirst (l : Launch) (G : gG) (a0 : Nat) (a1 : Nat) (first : Int32) (len : Int32) (ring : Nat → Int32) : gM l G yX4_removeFirst cX4_removeFirst 2 (some .int) { frames := 0, cells := 0, slots := 0, locals := 0 } [.ref a0] [(a0, .inr (6, [.ref a1, .int first, .int len])), (a1, .inl (G.2.1.1, 64, .inl ring))] (some (.int ((f_X4_removeFirst first len ring).1))) [(a0, .inr (6, [.ref a1, .int ((f_X4_removeFirst first len ring).2.1), .int ((f_X4_removeFirst first len ring).2.2)])), (a1, .inl (G.2.1.1, 64, .inl ring))] 0 0 := by
  refine gBegin (by decide +kernel) (Nat.le_of_ble_eq_true rfl) (fun p e s m args below meth c A F hr hlocks hname hN hK hP hD hA hS ls hl => ?_)
  obtain ⟨hx, hb, hml, hown, hts⟩ := id F
  replace hP : va_P G.1 vwCl [(a0, .inr (6, [.ref a1, .int first, .int len])), (a1, .inl (G.2.1.1, 64, .inl ring))] s.heap := hP
  replace hl : lv_has ls 2 [(0, .ref a0)] := hl
  refine lv_aload_n hx hb dX4_removeFirst_0 rfl (lv_at hl 0 rfl) ?_
  refine va_get (D := G.1) (ci := 6) (v := .ref a1) (C := RX4) (T := TX4) (N := 3) hx hb hts in_X4 hown hK hP 0 rfl rfl 0 (by decide) (hts _ k_fl_X4_9) (fun _ h9 => h9) rfl dX4_removeFirst_1 ?_
  refine lv_aload_n hx hb dX4_removeFirst_4 rfl (lv_at hl 0 rfl) ?_
  refine va_get (D := G.1) (ci := 6) (v := .int first) (C := RX4) (T := TX4) (N := 3) hx hb hts in_X4 hown hK hP 0 rfl rfl 1 (by decide) (hts _ k_fl_X4_19) (fun _ h9 => h9) rfl dX4_removeFirst_5 ?_
  refine lv_bipush (v := 63) hx hb dX4_removeFirst_8 (by decide) ?_
  refine lv_iand hx hb dX4_removeFirst_10 ?_
  refine va_iald hx hb hK hP 1 0 rfl rfl (pk_andIn _ 6 (by decide) (by decide)) dX4_removeFirst_11 ?_
  refine lv_istore_n (lv' := [(1, .int (ring (Int32.toNatClampNeg (first &&& 63)))), (0, .ref a0)]) hx hb dX4_removeFirst_12 rfl hl (by decide) rfl (fun ls hl => ?_)
  refine lv_aload_n hx hb dX4_removeFirst_13 rfl (lv_at hl 1 rfl) ?_
  refine lv_aload_n hx hb dX4_removeFirst_14 rfl (lv_at hl 1 rfl) ?_
  refine va_get (D := G.1) (ci := 6) (v := .int first) (C := RX4) (T := TX4) (N := 3) hx hb hts in_X4 hown hK hP 0 rfl rfl 1 (by decide) (hts _ k_fl_X4_19) (fun _ h9 => h9) rfl dX4_removeFirst_15 ?_
  refine lv_iconst (v := 1) hx hb dX4_removeFirst_18 (by decide) ?_
  refine lv_iadd hx hb dX4_removeFirst_19 ?_
  refine lv_bipush (v := 63) hx hb dX4_removeFirst_20 (by decide) ?_
  refine lv_iand hx hb dX4_removeFirst_22 ?_
  refine va_put (D := G.1) (ci := 6) (v := .int ((first + 1) &&& 63)) (ty := .int) (C := RX4) (T := TX4) (N := 3) hx hb hts in_X4 tyX4 tyX4_ok nmX4 hown hK hP hD hS 0 rfl rfl 1 (by decide) (hts _ k_fl_X4_19) (fun _ h9 => h9) rfl (by decide +kernel) rfl rfl (Nat.le_of_ble_eq_true rfl) dX4_removeFirst_23 (fun H locs hP hD hS => ?_)
  replace hP : va_P G.1 vwCl [(a0, .inr (6, [.ref a1, .int ((first + 1) &&& 63), .int len])), (a1, .inl (G.2.1.1, 64, .inl ring))] H := hP
  replace hD : va_D A [(a0, .inr (6, [.ref a1, .int ((first + 1) &&& 63), .int len])), (a1, .inl (G.2.1.1, 64, .inl ring))] := hD
  refine lv_aload_n hx hb dX4_removeFirst_26 rfl (lv_at hl 1 rfl) ?_
  refine lv_dup hx hb dX4_removeFirst_27 rfl ?_
  refine va_get (D := G.1) (ci := 6) (v := .int len) (C := RX4) (T := TX4) (N := 3) hx hb hts in_X4 hown hK hP 0 rfl rfl 2 (by decide) (hts _ k_fl_X4_15) (fun _ h9 => h9) rfl dX4_removeFirst_28 ?_
  refine lv_iconst (v := 1) hx hb dX4_removeFirst_31 (by decide) ?_
  refine lv_isub hx hb dX4_removeFirst_32 ?_
  refine va_put (D := G.1) (ci := 6) (v := .int (len - 1)) (ty := .int) (C := RX4) (T := TX4) (N := 3) hx hb hts in_X4 tyX4 tyX4_ok nmX4 hown hK hP hD hS 0 rfl rfl 2 (by decide) (hts _ k_fl_X4_15) (fun _ h9 => h9) rfl (by decide +kernel) rfl rfl (Nat.le_of_ble_eq_true rfl) dX4_removeFirst_33 (fun H locs hP hD hS => ?_)
  replace hP : va_P G.1 vwCl [(a0, .inr (6, [.ref a1, .int ((first + 1) &&& 63), .int (len - 1)])), (a1, .inl (G.2.1.1, 64, .inl ring))] H := hP
  replace hD : va_D A [(a0, .inr (6, [.ref a1, .int ((first + 1) &&& 63), .int (len - 1)])), (a1, .inl (G.2.1.1, 64, .inl ring))] := hD
  refine lv_iload_n hx hb dX4_removeFirst_36 rfl (lv_at hl 0 rfl) ?_
  exact gRetI F hr hlocks hK hP hD hS rfl rfl (Nat.le_of_ble_eq_true rfl) (Nat.le_of_ble_eq_true rfl) dX4_removeFirst_37
theorem okV_X4_removeFirst : gOkV yX4_removeFirst cX4_removeFirst 2 (some .int) 0 := ⟨⟨k_im_X4_removeFirst, k_se_X4_removeFirst, k_in_X4, k_cd_X4_removeFirst⟩, by decide, by decide, by decide +kernel⟩
