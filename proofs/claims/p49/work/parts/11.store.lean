def f_J6_bitCount_0f7a4 (p0 : Int32) : Int32 :=
  ((((((((p0 - ((gUshr p0 1) &&& 1431655765)) &&& 858993459) + ((gUshr (p0 - ((gUshr p0 1) &&& 1431655765)) 2) &&& 858993459)) + (gUshr (((p0 - ((gUshr p0 1) &&& 1431655765)) &&& 858993459) + ((gUshr (p0 - ((gUshr p0 1) &&& 1431655765)) 2) &&& 858993459)) 4)) &&& 252645135) + (gUshr (((((p0 - ((gUshr p0 1) &&& 1431655765)) &&& 858993459) + ((gUshr (p0 - ((gUshr p0 1) &&& 1431655765)) 2) &&& 858993459)) + (gUshr (((p0 - ((gUshr p0 1) &&& 1431655765)) &&& 858993459) + ((gUshr (p0 - ((gUshr p0 1) &&& 1431655765)) 2) &&& 858993459)) 4)) &&& 252645135) 8)) + (gUshr ((((((p0 - ((gUshr p0 1) &&& 1431655765)) &&& 858993459) + ((gUshr (p0 - ((gUshr p0 1) &&& 1431655765)) 2) &&& 858993459)) + (gUshr (((p0 - ((gUshr p0 1) &&& 1431655765)) &&& 858993459) + ((gUshr (p0 - ((gUshr p0 1) &&& 1431655765)) 2) &&& 858993459)) 4)) &&& 252645135) + (gUshr (((((p0 - ((gUshr p0 1) &&& 1431655765)) &&& 858993459) + ((gUshr (p0 - ((gUshr p0 1) &&& 1431655765)) 2) &&& 858993459)) + (gUshr (((p0 - ((gUshr p0 1) &&& 1431655765)) &&& 858993459) + ((gUshr (p0 - ((gUshr p0 1) &&& 1431655765)) 2) &&& 858993459)) 4)) &&& 252645135) 8)) 16)) &&& 63)
set_option maxRecDepth 100000 in
set_option maxHeartbeats 4000000 in
theorem c_J6_bitCount_0f7a4 (l : Launch) (G : gG) (p0 : Int32) : gM l G yJ6_bitCount_0f7a4 cJ6_bitCount_0f7a4 1 (some .int) { frames := 0, cells := 0, slots := 0, locals := 0 } [.int p0] [] (some (.int (f_J6_bitCount_0f7a4 p0))) [] 0 0 := by
  refine gBegin (by decide +kernel) (Nat.le_of_ble_eq_true rfl) (fun p e s m args below meth c A F hr hlocks hname hN hK hP hD hA hS ls hl => ?_)
  obtain ⟨hx, hb, hml, hown, hts⟩ := id F
  replace hP : va_P G.1 vwCl [] s.heap := hP
  replace hl : lv_has ls 1 [(0, .int p0)] := hl
  refine lv_iload_n hx hb dJ6_bitCount_0f7a4_0 rfl (lv_at hl 0 rfl) ?_
  refine lv_iload_n hx hb dJ6_bitCount_0f7a4_1 rfl (lv_at hl 0 rfl) ?_
  refine lv_iconst (v := 1) hx hb dJ6_bitCount_0f7a4_2 (by decide) ?_
  refine lv_iushr (v := (gUshr p0 1)) hx hb dJ6_bitCount_0f7a4_3 rfl ?_
  refine lv_ldcw (v := 1431655765) hx hb hown (hts _ k_co_J6_265) dJ6_bitCount_0f7a4_4 ?_
  refine lv_iand hx hb dJ6_bitCount_0f7a4_7 ?_
  refine lv_isub hx hb dJ6_bitCount_0f7a4_8 ?_
  refine lv_istore_n (lv' := [(0, .int (p0 - ((gUshr p0 1) &&& 1431655765)))]) hx hb dJ6_bitCount_0f7a4_9 rfl hl (by decide) rfl (fun ls hl => ?_)
  refine lv_iload_n hx hb dJ6_bitCount_0f7a4_10 rfl (lv_at hl 0 rfl) ?_
  refine lv_ldcw (v := 858993459) hx hb hown (hts _ k_co_J6_266) dJ6_bitCount_0f7a4_11 ?_
  refine lv_iand hx hb dJ6_bitCount_0f7a4_14 ?_
  refine lv_iload_n hx hb dJ6_bitCount_0f7a4_15 rfl (lv_at hl 0 rfl) ?_
  refine lv_iconst (v := 2) hx hb dJ6_bitCount_0f7a4_16 (by decide) ?_
  refine lv_iushr (v := (gUshr (p0 - ((gUshr p0 1) &&& 1431655765)) 2)) hx hb dJ6_bitCount_0f7a4_17 rfl ?_
  refine lv_ldcw (v := 858993459) hx hb hown (hts _ k_co_J6_266) dJ6_bitCount_0f7a4_18 ?_
  refine lv_iand hx hb dJ6_bitCount_0f7a4_21 ?_
  refine lv_iadd hx hb dJ6_bitCount_0f7a4_22 ?_
  refine lv_istore_n (lv' := [(0, .int (((p0 - ((gUshr p0 1) &&& 1431655765)) &&& 858993459) + ((gUshr (p0 - ((gUshr p0 1) &&& 1431655765)) 2) &&& 858993459)))]) hx hb dJ6_bitCount_0f7a4_23 rfl hl (by decide) rfl (fun ls hl => ?_)
  refine lv_iload_n hx hb dJ6_bitCount_0f7a4_24 rfl (lv_at hl 0 rfl) ?_
  refine lv_iload_n hx hb dJ6_bitCount_0f7a4_25 rfl (lv_at hl 0 rfl) ?_
  refine lv_iconst (v := 4) hx hb dJ6_bitCount_0f7a4_26 (by decide) ?_
  refine lv_iushr (v := (gUshr (((p0 - ((gUshr p0 1) &&& 1431655765)) &&& 858993459) + ((gUshr (p0 - ((gUshr p0 1) &&& 1431655765)) 2) &&& 858993459)) 4)) hx hb dJ6_bitCount_0f7a4_27 rfl ?_
  refine lv_iadd hx hb dJ6_bitCount_0f7a4_28 ?_
  refine lv_ldcw (v := 252645135) hx hb hown (hts _ k_co_J6_267) dJ6_bitCount_0f7a4_29 ?_
  refine lv_iand hx hb dJ6_bitCount_0f7a4_32 ?_
  refine lv_istore_n (lv' := [(0, .int (((((p0 - ((gUshr p0 1) &&& 1431655765)) &&& 858993459) + ((gUshr (p0 - ((gUshr p0 1) &&& 1431655765)) 2) &&& 858993459)) + (gUshr (((p0 - ((gUshr p0 1) &&& 1431655765)) &&& 858993459) + ((gUshr (p0 - ((gUshr p0 1) &&& 1431655765)) 2) &&& 858993459)) 4)) &&& 252645135))]) hx hb dJ6_bitCount_0f7a4_33 rfl hl (by decide) rfl (fun ls hl => ?_)
  refine lv_iload_n hx hb dJ6_bitCount_0f7a4_34 rfl (lv_at hl 0 rfl) ?_
  refine lv_iload_n hx hb dJ6_bitCount_0f7a4_35 rfl (lv_at hl 0 rfl) ?_
  refine lv_bipush (v := 8) hx hb dJ6_bitCount_0f7a4_36 (by decide) ?_
  refine lv_iushr (v := (gUshr (((((p0 - ((gUshr p0 1) &&& 1431655765)) &&& 858993459) + ((gUshr (p0 - ((gUshr p0 1) &&& 1431655765)) 2) &&& 858993459)) + (gUshr (((p0 - ((gUshr p0 1) &&& 1431655765)) &&& 858993459) + ((gUshr (p0 - ((gUshr p0 1) &&& 1431655765)) 2) &&& 858993459)) 4)) &&& 252645135) 8)) hx hb dJ6_bitCount_0f7a4_38 rfl ?_
  refine lv_iadd hx hb dJ6_bitCount_0f7a4_39 ?_
  refine lv_istore_n (lv' := [(0, .int ((((((p0 - ((gUshr p0 1) &&& 1431655765)) &&& 858993459) + ((gUshr (p0 - ((gUshr p0 1) &&& 1431655765)) 2) &&& 858993459)) + (gUshr (((p0 - ((gUshr p0 1) &&& 1431655765)) &&& 858993459) + ((gUshr (p0 - ((gUshr p0 1) &&& 1431655765)) 2) &&& 858993459)) 4)) &&& 252645135) + (gUshr (((((p0 - ((gUshr p0 1) &&& 1431655765)) &&& 858993459) + ((gUshr (p0 - ((gUshr p0 1) &&& 1431655765)) 2) &&& 858993459)) + (gUshr (((p0 - ((gUshr p0 1) &&& 1431655765)) &&& 858993459) + ((gUshr (p0 - ((gUshr p0 1) &&& 1431655765)) 2) &&& 858993459)) 4)) &&& 252645135) 8)))]) hx hb dJ6_bitCount_0f7a4_40 rfl hl (by decide) rfl (fun ls hl => ?_)
  refine lv_iload_n hx hb dJ6_bitCount_0f7a4_41 rfl (lv_at hl 0 rfl) ?_
  refine lv_iload_n hx hb dJ6_bitCount_0f7a4_42 rfl (lv_at hl 0 rfl) ?_
  refine lv_bipush (v := 16) hx hb dJ6_bitCount_0f7a4_43 (by decide) ?_
  refine lv_iushr (v := (gUshr ((((((p0 - ((gUshr p0 1) &&& 1431655765)) &&& 858993459) + ((gUshr (p0 - ((gUshr p0 1) &&& 1431655765)) 2) &&& 858993459)) + (gUshr (((p0 - ((gUshr p0 1) &&& 1431655765)) &&& 858993459) + ((gUshr (p0 - ((gUshr p0 1) &&& 1431655765)) 2) &&& 858993459)) 4)) &&& 252645135) + (gUshr (((((p0 - ((gUshr p0 1) &&& 1431655765)) &&& 858993459) + ((gUshr (p0 - ((gUshr p0 1) &&& 1431655765)) 2) &&& 858993459)) + (gUshr (((p0 - ((gUshr p0 1) &&& 1431655765)) &&& 858993459) + ((gUshr (p0 - ((gUshr p0 1) &&& 1431655765)) 2) &&& 858993459)) 4)) &&& 252645135) 8)) 16)) hx hb dJ6_bitCount_0f7a4_45 rfl ?_
  refine lv_iadd hx hb dJ6_bitCount_0f7a4_46 ?_
  refine lv_istore_n (lv' := [(0, .int (((((((p0 - ((gUshr p0 1) &&& 1431655765)) &&& 858993459) + ((gUshr (p0 - ((gUshr p0 1) &&& 1431655765)) 2) &&& 858993459)) + (gUshr (((p0 - ((gUshr p0 1) &&& 1431655765)) &&& 858993459) + ((gUshr (p0 - ((gUshr p0 1) &&& 1431655765)) 2) &&& 858993459)) 4)) &&& 252645135) + (gUshr (((((p0 - ((gUshr p0 1) &&& 1431655765)) &&& 858993459) + ((gUshr (p0 - ((gUshr p0 1) &&& 1431655765)) 2) &&& 858993459)) + (gUshr (((p0 - ((gUshr p0 1) &&& 1431655765)) &&& 858993459) + ((gUshr (p0 - ((gUshr p0 1) &&& 1431655765)) 2) &&& 858993459)) 4)) &&& 252645135) 8)) + (gUshr ((((((p0 - ((gUshr p0 1) &&& 1431655765)) &&& 858993459) + ((gUshr (p0 - ((gUshr p0 1) &&& 1431655765)) 2) &&& 858993459)) + (gUshr (((p0 - ((gUshr p0 1) &&& 1431655765)) &&& 858993459) + ((gUshr (p0 - ((gUshr p0 1) &&& 1431655765)) 2) &&& 858993459)) 4)) &&& 252645135) + (gUshr (((((p0 - ((gUshr p0 1) &&& 1431655765)) &&& 858993459) + ((gUshr (p0 - ((gUshr p0 1) &&& 1431655765)) 2) &&& 858993459)) + (gUshr (((p0 - ((gUshr p0 1) &&& 1431655765)) &&& 858993459) + ((gUshr (p0 - ((gUshr p0 1) &&& 1431655765)) 2) &&& 858993459)) 4)) &&& 252645135) 8)) 16)))]) hx hb dJ6_bitCount_0f7a4_47 rfl hl (by decide) rfl (fun ls hl => ?_)
  refine lv_iload_n hx hb dJ6_bitCount_0f7a4_48 rfl (lv_at hl 0 rfl) ?_
  refine lv_bipush (v := 63) hx hb dJ6_bitCount_0f7a4_49 (by decide) ?_
  refine lv_iand hx hb dJ6_bitCount_0f7a4_51 ?_
  exact gRetI F hr hlocks hK hP hD hS rfl rfl (Nat.le_of_ble_eq_true rfl) (Nat.le_of_ble_eq_true rfl) dJ6_bitCount_0f7a4_52
theorem okS_J6_bitCount_0f7a4 : gOkS yJ6_bitCount_0f7a4 cJ6_bitCount_0f7a4 1 (some .int) 1 := ⟨⟨k_st_J6_bitCount_0f7a4, k_in_J6, k_cd_J6_bitCount_0f7a4⟩, by decide, by decide, by decide +kernel⟩
def f_J9_abs_0f7a4 (p0 : Int32) : Int32 :=
  if 0 ≤ p0 then
    p0
  else
    (-p0)
set_option maxRecDepth 100000 in
set_option maxHeartbeats 4000000 in
theorem c_J9_abs_0f7a4 (l : Launch) (G : gG) (p0 : Int32) : gM l G yJ9_abs_0f7a4 cJ9_abs_0f7a4 1 (some .int) { frames := 0, cells := 0, slots := 0, locals := 0 } [.int p0] [] (some (.int (f_J9_abs_0f7a4 p0))) [] 0 0 := by
  refine gBegin (by decide +kernel) (Nat.le_of_ble_eq_true rfl) (fun p e s m args below meth c A F hr hlocks hname hN hK hP hD hA hS ls hl => ?_)
  obtain ⟨hx, hb, hml, hown, hts⟩ := id F
  replace hP : va_P G.1 vwCl [] s.heap := hP
  replace hl : lv_has ls 1 [(0, .int p0)] := hl
  refine lv_iload_n hx hb dJ9_abs_0f7a4_0 rfl (lv_at hl 0 rfl) ?_
  refine lv_if_ge (tgt := 9) hx hb dJ9_abs_0f7a4_1 (by decide) (fun c_1 => ?_) (fun c_1 => ?_)
  · skip
    refine lv_iload_n hx hb dJ9_abs_0f7a4_9 rfl (lv_at hl 0 rfl) ?_
    have ef : (f_J9_abs_0f7a4 p0) = p0 := (if_pos c_1)
    exact gRetI F hr hlocks hK hP hD hS (by rw [ef]) rfl (Nat.le_of_ble_eq_true rfl) (Nat.le_of_ble_eq_true rfl) dJ9_abs_0f7a4_10
  · skip
    refine lv_iload_n hx hb dJ9_abs_0f7a4_4 rfl (lv_at hl 0 rfl) ?_
    refine lv_ineg hx hb dJ9_abs_0f7a4_5 ?_
    refine lv_goto (tgt := 10) hx hb dJ9_abs_0f7a4_6 (by decide) ?_
    have ef : (f_J9_abs_0f7a4 p0) = (-p0) := (if_neg c_1)
    exact gRetI F hr hlocks hK hP hD hS (by rw [ef]) rfl (Nat.le_of_ble_eq_true rfl) (Nat.le_of_ble_eq_true rfl) dJ9_abs_0f7a4_10
theorem okS_J9_abs_0f7a4 : gOkS yJ9_abs_0f7a4 cJ9_abs_0f7a4 1 (some .int) 1 := ⟨⟨k_st_J9_abs_0f7a4, k_in_J9, k_cd_J9_abs_0f7a4⟩, by decide, by decide, by decide +kernel⟩
def f_J9_min_7cf53 (p0 : Int32) (p1 : Int32) : Int32 :=
  if p1 < p0 then
    p1
  else
    p0
set_option maxRecDepth 100000 in
set_option maxHeartbeats 4000000 in
theorem c_J9_min_7cf53 (l : Launch) (G : gG) (p0 : Int32) (p1 : Int32) : gM l G yJ9_min_7cf53 cJ9_min_7cf53 2 (some .int) { frames := 0, cells := 0, slots := 0, locals := 0 } [.int p0, .int p1] [] (some (.int (f_J9_min_7cf53 p0 p1))) [] 0 0 := by
  refine gBegin (by decide +kernel) (Nat.le_of_ble_eq_true rfl) (fun p e s m args below meth c A F hr hlocks hname hN hK hP hD hA hS ls hl => ?_)
  obtain ⟨hx, hb, hml, hown, hts⟩ := id F
  replace hP : va_P G.1 vwCl [] s.heap := hP
  replace hl : lv_has ls 2 [(0, .int p0), (1, .int p1)] := hl
  refine lv_iload_n hx hb dJ9_min_7cf53_0 rfl (lv_at hl 0 rfl) ?_
  refine lv_iload_n hx hb dJ9_min_7cf53_1 rfl (lv_at hl 1 rfl) ?_
  refine lv_icmp_gt (tgt := 9) hx hb dJ9_min_7cf53_2 (by decide) (fun c_1 => ?_) (fun c_1 => ?_)
  · skip
    refine lv_iload_n hx hb dJ9_min_7cf53_9 rfl (lv_at hl 1 rfl) ?_
    have ef : (f_J9_min_7cf53 p0 p1) = p1 := (if_pos c_1)
    exact gRetI F hr hlocks hK hP hD hS (by rw [ef]) rfl (Nat.le_of_ble_eq_true rfl) (Nat.le_of_ble_eq_true rfl) dJ9_min_7cf53_10
  · skip
    refine lv_iload_n hx hb dJ9_min_7cf53_5 rfl (lv_at hl 0 rfl) ?_
    refine lv_goto (tgt := 10) hx hb dJ9_min_7cf53_6 (by decide) ?_
    have ef : (f_J9_min_7cf53 p0 p1) = p0 := (if_neg c_1)
    exact gRetI F hr hlocks hK hP hD hS (by rw [ef]) rfl (Nat.le_of_ble_eq_true rfl) (Nat.le_of_ble_eq_true rfl) dJ9_min_7cf53_10
theorem okS_J9_min_7cf53 : gOkS yJ9_min_7cf53 cJ9_min_7cf53 2 (some .int) 2 := ⟨⟨k_st_J9_min_7cf53, k_in_J9, k_cd_J9_min_7cf53⟩, by decide, by decide, by decide +kernel⟩
def f_J9_max_7cf53 (p0 : Int32) (p1 : Int32) : Int32 :=
  if p0 < p1 then
    p1
  else
    p0
set_option maxRecDepth 100000 in
set_option maxHeartbeats 4000000 in
theorem c_J9_max_7cf53 (l : Launch) (G : gG) (p0 : Int32) (p1 : Int32) : gM l G yJ9_max_7cf53 cJ9_max_7cf53 2 (some .int) { frames := 0, cells := 0, slots := 0, locals := 0 } [.int p0, .int p1] [] (some (.int (f_J9_max_7cf53 p0 p1))) [] 0 0 := by
  refine gBegin (by decide +kernel) (Nat.le_of_ble_eq_true rfl) (fun p e s m args below meth c A F hr hlocks hname hN hK hP hD hA hS ls hl => ?_)
  obtain ⟨hx, hb, hml, hown, hts⟩ := id F
  replace hP : va_P G.1 vwCl [] s.heap := hP
  replace hl : lv_has ls 2 [(0, .int p0), (1, .int p1)] := hl
  refine lv_iload_n hx hb dJ9_max_7cf53_0 rfl (lv_at hl 0 rfl) ?_
  refine lv_iload_n hx hb dJ9_max_7cf53_1 rfl (lv_at hl 1 rfl) ?_
  refine lv_icmp_lt (tgt := 9) hx hb dJ9_max_7cf53_2 (by decide) (fun c_1 => ?_) (fun c_1 => ?_)
  · skip
    refine lv_iload_n hx hb dJ9_max_7cf53_9 rfl (lv_at hl 1 rfl) ?_
    have ef : (f_J9_max_7cf53 p0 p1) = p1 := (if_pos c_1)
    exact gRetI F hr hlocks hK hP hD hS (by rw [ef]) rfl (Nat.le_of_ble_eq_true rfl) (Nat.le_of_ble_eq_true rfl) dJ9_max_7cf53_10
  · skip
    refine lv_iload_n hx hb dJ9_max_7cf53_5 rfl (lv_at hl 0 rfl) ?_
    refine lv_goto (tgt := 10) hx hb dJ9_max_7cf53_6 (by decide) ?_
    have ef : (f_J9_max_7cf53 p0 p1) = p0 := (if_neg c_1)
    exact gRetI F hr hlocks hK hP hD hS (by rw [ef]) rfl (Nat.le_of_ble_eq_true rfl) (Nat.le_of_ble_eq_true rfl) dJ9_max_7cf53_10
theorem okS_J9_max_7cf53 : gOkS yJ9_max_7cf53 cJ9_max_7cf53 2 (some .int) 2 := ⟨⟨k_st_J9_max_7cf53, k_in_J9, k_cd_J9_max_7cf53⟩, by decide, by decide, by decide +kernel⟩
def f_J9_floorDiv_7cf53 (p0 : Int32) (p1 : Int32) : Int32 :=
  if 0 ≤ (p0 ^^^ p1) then
    (p0 / p1)
  else
    if ((p0 / p1) * p1) = p0 then
      (p0 / p1)
    else
      ((p0 / p1) - 1)
set_option maxRecDepth 100000 in
set_option maxHeartbeats 4000000 in
theorem c_J9_floorDiv_7cf53 (l : Launch) (G : gG) (p0 : Int32) (p1 : Int32) (hy : ¬ p1 = 0) : gM l G yJ9_floorDiv_7cf53 cJ9_floorDiv_7cf53 3 (some .int) { frames := 0, cells := 0, slots := 0, locals := 0 } [.int p0, .int p1] [] (some (.int (f_J9_floorDiv_7cf53 p0 p1))) [] 0 0 := by
  refine gBegin (by decide +kernel) (Nat.le_of_ble_eq_true rfl) (fun p e s m args below meth c A F hr hlocks hname hN hK hP hD hA hS ls hl => ?_)
  obtain ⟨hx, hb, hml, hown, hts⟩ := id F
  replace hP : va_P G.1 vwCl [] s.heap := hP
  replace hl : lv_has ls 3 [(0, .int p0), (1, .int p1)] := hl
  refine lv_iload_n hx hb dJ9_floorDiv_7cf53_0 rfl (lv_at hl 0 rfl) ?_
  refine lv_iload_n hx hb dJ9_floorDiv_7cf53_1 rfl (lv_at hl 1 rfl) ?_
  refine lv_idiv hx hb dJ9_floorDiv_7cf53_2 hy ?_
  refine lv_istore_n (lv' := [(2, .int (p0 / p1)), (0, .int p0), (1, .int p1)]) hx hb dJ9_floorDiv_7cf53_3 rfl hl (by decide) rfl (fun ls hl => ?_)
  refine lv_iload_n hx hb dJ9_floorDiv_7cf53_4 rfl (lv_at hl 1 rfl) ?_
  refine lv_iload_n hx hb dJ9_floorDiv_7cf53_5 rfl (lv_at hl 2 rfl) ?_
  refine lv_ixor hx hb dJ9_floorDiv_7cf53_6 ?_
  refine lv_if_ge (tgt := 21) hx hb dJ9_floorDiv_7cf53_7 (by decide) (fun c_1 => ?_) (fun c_1 => ?_)
  · skip
    refine lv_iload_n hx hb dJ9_floorDiv_7cf53_21 rfl (lv_at hl 0 rfl) ?_
    have ef : (f_J9_floorDiv_7cf53 p0 p1) = (p0 / p1) := (if_pos c_1)
    exact gRetI F hr hlocks hK hP hD hS (by rw [ef]) rfl (Nat.le_of_ble_eq_true rfl) (Nat.le_of_ble_eq_true rfl) dJ9_floorDiv_7cf53_22
  · skip
    refine lv_iload_n hx hb dJ9_floorDiv_7cf53_10 rfl (lv_at hl 0 rfl) ?_
    refine lv_iload_n hx hb dJ9_floorDiv_7cf53_11 rfl (lv_at hl 2 rfl) ?_
    refine lv_imul hx hb dJ9_floorDiv_7cf53_12 ?_
    refine lv_iload_n hx hb dJ9_floorDiv_7cf53_13 rfl (lv_at hl 1 rfl) ?_
    refine lv_icmp_eq (tgt := 21) hx hb dJ9_floorDiv_7cf53_14 (by decide) (fun c_2 => ?_) (fun c_2 => ?_)
    · skip
      refine lv_iload_n hx hb dJ9_floorDiv_7cf53_21 rfl (lv_at hl 0 rfl) ?_
      have ef : (f_J9_floorDiv_7cf53 p0 p1) = (p0 / p1) := ((if_neg c_1).trans (if_pos c_2))
      exact gRetI F hr hlocks hK hP hD hS (by rw [ef]) rfl (Nat.le_of_ble_eq_true rfl) (Nat.le_of_ble_eq_true rfl) dJ9_floorDiv_7cf53_22
    · skip
      refine lv_iload_n hx hb dJ9_floorDiv_7cf53_17 rfl (lv_at hl 0 rfl) ?_
      refine lv_iconst (v := 1) hx hb dJ9_floorDiv_7cf53_18 (by decide) ?_
      refine lv_isub hx hb dJ9_floorDiv_7cf53_19 ?_
      have ef : (f_J9_floorDiv_7cf53 p0 p1) = ((p0 / p1) - 1) := ((if_neg c_1).trans (if_neg c_2))
      exact gRetI F hr hlocks hK hP hD hS (by rw [ef]) rfl (Nat.le_of_ble_eq_true rfl) (Nat.le_of_ble_eq_true rfl) dJ9_floorDiv_7cf53_20
theorem okS_J9_floorDiv_7cf53 : gOkS yJ9_floorDiv_7cf53 cJ9_floorDiv_7cf53 3 (some .int) 2 := ⟨⟨k_st_J9_floorDiv_7cf53, k_in_J9, k_cd_J9_floorDiv_7cf53⟩, by decide, by decide, by decide +kernel⟩
def f_J9_floorMod_7cf53 (p0 : Int32) (p1 : Int32) : Int32 :=
  if 0 ≤ (p0 ^^^ p1) then
    (p0 % p1)
  else
    if (p0 % p1) = 0 then
      (p0 % p1)
    else
      ((p0 % p1) + p1)
set_option maxRecDepth 100000 in
set_option maxHeartbeats 4000000 in
theorem c_J9_floorMod_7cf53 (l : Launch) (G : gG) (p0 : Int32) (p1 : Int32) (hy : ¬ p1 = 0) : gM l G yJ9_floorMod_7cf53 cJ9_floorMod_7cf53 3 (some .int) { frames := 0, cells := 0, slots := 0, locals := 0 } [.int p0, .int p1] [] (some (.int (f_J9_floorMod_7cf53 p0 p1))) [] 0 0 := by
  refine gBegin (by decide +kernel) (Nat.le_of_ble_eq_true rfl) (fun p e s m args below meth c A F hr hlocks hname hN hK hP hD hA hS ls hl => ?_)
  obtain ⟨hx, hb, hml, hown, hts⟩ := id F
  replace hP : va_P G.1 vwCl [] s.heap := hP
  replace hl : lv_has ls 3 [(0, .int p0), (1, .int p1)] := hl
  refine lv_iload_n hx hb dJ9_floorMod_7cf53_0 rfl (lv_at hl 0 rfl) ?_
  refine lv_iload_n hx hb dJ9_floorMod_7cf53_1 rfl (lv_at hl 1 rfl) ?_
  refine gIrem hx hb dJ9_floorMod_7cf53_2 hy ?_
  refine lv_istore_n (lv' := [(2, .int (p0 % p1)), (0, .int p0), (1, .int p1)]) hx hb dJ9_floorMod_7cf53_3 rfl hl (by decide) rfl (fun ls hl => ?_)
  refine lv_iload_n hx hb dJ9_floorMod_7cf53_4 rfl (lv_at hl 1 rfl) ?_
  refine lv_iload_n hx hb dJ9_floorMod_7cf53_5 rfl (lv_at hl 2 rfl) ?_
  refine lv_ixor hx hb dJ9_floorMod_7cf53_6 ?_
  refine lv_if_ge (tgt := 18) hx hb dJ9_floorMod_7cf53_7 (by decide) (fun c_1 => ?_) (fun c_1 => ?_)
  · skip
    refine lv_iload_n hx hb dJ9_floorMod_7cf53_18 rfl (lv_at hl 0 rfl) ?_
    have ef : (f_J9_floorMod_7cf53 p0 p1) = (p0 % p1) := (if_pos c_1)
    exact gRetI F hr hlocks hK hP hD hS (by rw [ef]) rfl (Nat.le_of_ble_eq_true rfl) (Nat.le_of_ble_eq_true rfl) dJ9_floorMod_7cf53_19
  · skip
    refine lv_iload_n hx hb dJ9_floorMod_7cf53_10 rfl (lv_at hl 0 rfl) ?_
    refine lv_if_eq (tgt := 18) hx hb dJ9_floorMod_7cf53_11 (by decide) (fun c_2 => ?_) (fun c_2 => ?_)
    · skip
      refine lv_iload_n hx hb dJ9_floorMod_7cf53_18 rfl (lv_at hl 0 rfl) ?_
      have ef : (f_J9_floorMod_7cf53 p0 p1) = (p0 % p1) := ((if_neg c_1).trans (if_pos c_2))
      exact gRetI F hr hlocks hK hP hD hS (by rw [ef]) rfl (Nat.le_of_ble_eq_true rfl) (Nat.le_of_ble_eq_true rfl) dJ9_floorMod_7cf53_19
    · skip
      refine lv_iload_n hx hb dJ9_floorMod_7cf53_14 rfl (lv_at hl 0 rfl) ?_
      refine lv_iload_n hx hb dJ9_floorMod_7cf53_15 rfl (lv_at hl 2 rfl) ?_
      refine lv_iadd hx hb dJ9_floorMod_7cf53_16 ?_
      have ef : (f_J9_floorMod_7cf53 p0 p1) = ((p0 % p1) + p1) := ((if_neg c_1).trans (if_neg c_2))
      exact gRetI F hr hlocks hK hP hD hS (by rw [ef]) rfl (Nat.le_of_ble_eq_true rfl) (Nat.le_of_ble_eq_true rfl) dJ9_floorMod_7cf53_17
theorem okS_J9_floorMod_7cf53 : gOkS yJ9_floorMod_7cf53 cJ9_floorMod_7cf53 3 (some .int) 2 := ⟨⟨k_st_J9_floorMod_7cf53, k_in_J9, k_cd_J9_floorMod_7cf53⟩, by decide, by decide, by decide +kernel⟩
def st_X5_countOnes_4 (bits : Nat → Int32) (p0 : Int32) (k : Nat) (v0_ : Int32) : Int32 :=
  (v0_ + (f_J6_bitCount_0f7a4 (bits (Int32.toNatClampNeg ((f_X6_locationOf p0 (nI k)) &&& 255)))))
def it_X5_countOnes_4 (bits : Nat → Int32) (p0 : Int32) : Nat → Int32
  | 0 => 0
  | i + 1 => st_X5_countOnes_4 bits p0 i (it_X5_countOnes_4 bits p0 i)
def f_X5_countOnes (bits : Nat → Int32) (p0 : Int32) : Int32 :=
  (it_X5_countOnes_4 bits p0 32)
set_option maxRecDepth 100000 in
set_option maxHeartbeats 4000000 in
theorem c_X5_countOnes (l : Launch) (G : gG) (a0 : Nat) (a1 : Nat) (a2 : Nat) (a3 : Nat) (bits : Nat → Int32) (dr : Int32) (p0 : Int32) : gM l G yX5_countOnes cX5_countOnes 4 (some .int) { frames := 1, cells := 0, slots := 0, locals := 21 } [.ref a0, .int p0] [(a0, .inr (7, [.ref a1, .ref a2, .ref a3, .int dr])), (a1, .inl (G.2.1.1, 256, .inl bits))] (some (.int (f_X5_countOnes bits p0))) [(a0, .inr (7, [.ref a1, .ref a2, .ref a3, .int dr])), (a1, .inl (G.2.1.1, 256, .inl bits))] 0 0 := by
  refine gBegin (by decide +kernel) (Nat.le_of_ble_eq_true rfl) (fun p e s m args below meth c A F hr hlocks hname hN hK hP hD hA hS ls hl => ?_)
  obtain ⟨hx, hb, hml, hown, hts⟩ := id F
  replace hP : va_P G.1 vwCl [(a0, .inr (7, [.ref a1, .ref a2, .ref a3, .int dr])), (a1, .inl (G.2.1.1, 256, .inl bits))] s.heap := hP
  replace hl : lv_has ls 4 [(0, .ref a0), (1, .int p0)] := hl
  refine lv_iconst (v := 0) hx hb dX5_countOnes_0 (by decide) ?_
  refine lv_istore_n (lv' := [(2, .int 0), (0, .ref a0), (1, .int p0)]) hx hb dX5_countOnes_1 rfl hl (by decide) rfl (fun ls hl => ?_)
  refine lv_iconst (v := 0) hx hb dX5_countOnes_2 (by decide) ?_
  refine lv_istore_n (lv' := [(3, .int 0), (2, .int 0), (0, .ref a0), (1, .int p0)]) hx hb dX5_countOnes_3 rfl hl (by decide) rfl (fun ls hl => ?_)
  have loop_4 : ∀ (fu k : Nat), k + fu = 32 → ∀ (H : Heap) (locs : List Loc), va_P G.1 vwCl [(a0, .inr (7, [.ref a1, .ref a2, .ref a3, .int dr])), (a1, .inl (G.2.1.1, 256, .inl bits))] H → va_D A [(a0, .inr (7, [.ref a1, .ref a2, .ref a3, .int dr])), (a1, .inl (G.2.1.1, 256, .inl bits))] → va_S A s.heap H locs → ∀ ls : Array Slot, lv_has ls 4 [(3, .int (nI k)), (2, .int (it_X5_countOnes_4 bits p0 k)), (0, .ref a0), (1, .int p0)] → W p l e { frames := 1, cells := 0, slots := 0, locals := 21 } s m args below meth c H locs 0 0 (MQ below (gQ G (some (.int (f_X5_countOnes bits p0))) [(a0, .inr (7, [.ref a1, .ref a2, .ref a3, .int dr])), (a1, .inl (G.2.1.1, 256, .inl bits))] A) args s 0 0 A) (F0 m 4 ls []) := by
    intro fu
    induction fu with
    | zero =>
      intro k hk H locs hP hD hS ls hl
      have ek : 32 = k := by omega
      subst ek
      replace hP : va_P G.1 vwCl [(a0, .inr (7, [.ref a1, .ref a2, .ref a3, .int dr])), (a1, .inl (G.2.1.1, 256, .inl bits))] H := hP
      replace hD : va_D A [(a0, .inr (7, [.ref a1, .ref a2, .ref a3, .int dr])), (a1, .inl (G.2.1.1, 256, .inl bits))] := hD
      replace hl : lv_has ls 4 [(3, .int (nI 32)), (2, .int (it_X5_countOnes_4 bits p0 32)), (0, .ref a0), (1, .int p0)] := hl
      refine lv_iload_n hx hb dX5_countOnes_4 rfl (lv_at hl 0 rfl) ?_
      refine lv_bipush (v := 32) hx hb dX5_countOnes_5 (by decide) ?_
      refine lv_icmp_ge (tgt := 36) hx hb dX5_countOnes_7 (by decide) (fun c_1 => ?_) (fun c_1 => ?_)
      · skip
        refine lv_iload_n hx hb dX5_countOnes_36 rfl (lv_at hl 1 rfl) ?_
        exact gRetI F hr hlocks hK hP hD hS rfl rfl (Nat.le_of_ble_eq_true rfl) (Nat.le_of_ble_eq_true rfl) dX5_countOnes_37
      · exact absurd (Int32.le_refl _) c_1
    | succ fu ih =>
      intro k hk H locs hP hD hS ls hl
      have hlt_k : k < 32 := by omega
      refine lv_iload_n hx hb dX5_countOnes_4 rfl (lv_at hl 0 rfl) ?_
      refine lv_bipush (v := 32) hx hb dX5_countOnes_5 (by decide) ?_
      refine lv_icmp_ge (tgt := 36) hx hb dX5_countOnes_7 (by decide) (fun c_2 => ?_) (fun c_2 => ?_)
      · exact absurd c_2 (nI_ge hlt_k (by decide))
      · skip
        refine lv_iload_n hx hb dX5_countOnes_10 rfl (lv_at hl 1 rfl) ?_
        refine lv_aload_n hx hb dX5_countOnes_11 rfl (lv_at hl 2 rfl) ?_
        refine va_get (D := G.1) (ci := 7) (v := .ref a1) (C := RX5) (T := TX5) (N := 4) hx hb hts in_X5 hown hK hP 0 rfl rfl 0 (by decide) (hts _ k_fl_X5_9) (fun _ h9 => h9) rfl dX5_countOnes_12 ?_
        refine lv_iload_n hx hb dX5_countOnes_15 rfl (lv_at hl 3 rfl) ?_
        refine lv_iload_n hx hb dX5_countOnes_16 rfl (lv_at hl 0 rfl) ?_
        refine gSN (As := [.int p0, .int (nI k)]) (rest := [.ref a1, .int (it_X5_countOnes_4 bits p0 k)]) (wr := [(a0, .inr (7, [.ref a1, .ref a2, .ref a3, .int dr])), (a1, .inl (G.2.1.1, 256, .inl bits))]) (ws' := [(a0, .inr (7, [.ref a1, .ref a2, .ref a3, .int dr])), (a1, .inl (G.2.1.1, 256, .inl bits))]) F (c_X6_locationOf l G p0 (nI k)) okS_X6_locationOf kn_X5_26 rfl rfl ⟨Nat.le_of_ble_eq_true rfl, Nat.le_of_ble_eq_true rfl⟩ hN hK hP hD hS hA [] [0, 1] [0, 1] (by decide) rfl rfl (by decide) (by decide) (by decide) rfl rfl rfl hl.1 (Nat.le_of_ble_eq_true rfl) dX5_countOnes_17 ⟨Nat.le_refl _, Nat.le_refl _⟩ (fun H locs hP hD hS => ?_)
        refine lv_sipush (v := 255) hx hb dX5_countOnes_20 (by decide) ?_
        refine lv_iand hx hb dX5_countOnes_23 ?_
        refine va_iald hx hb hK hP 1 0 rfl rfl (pk_andIn _ 8 (by decide) (by decide)) dX5_countOnes_24 ?_
        refine gS (As := [.int (bits (Int32.toNatClampNeg ((f_X6_locationOf p0 (nI k)) &&& 255)))]) (rest := [.int (it_X5_countOnes_4 bits p0 k)]) (wr := [(a0, .inr (7, [.ref a1, .ref a2, .ref a3, .int dr])), (a1, .inl (G.2.1.1, 256, .inl bits))]) (ws' := [(a0, .inr (7, [.ref a1, .ref a2, .ref a3, .int dr])), (a1, .inl (G.2.1.1, 256, .inl bits))]) F (c_J6_bitCount_0f7a4 l G (bits (Int32.toNatClampNeg ((f_X6_locationOf p0 (nI k)) &&& 255)))) okS_J6_bitCount_0f7a4 k_ml_X5_30 rfl rfl ⟨Nat.le_of_ble_eq_true rfl, Nat.le_of_ble_eq_true rfl⟩ hN hK hP hD hS hA [] [0, 1] [0, 1] (by decide) rfl rfl (by decide) (by decide) (by decide) rfl rfl rfl hl.1 (Nat.le_of_ble_eq_true rfl) dX5_countOnes_25 ⟨Nat.le_refl _, Nat.le_refl _⟩ (fun H locs hP hD hS => ?_)
        refine lv_iadd hx hb dX5_countOnes_28 ?_
        refine lv_istore_n (lv' := [(2, .int ((it_X5_countOnes_4 bits p0 k) + (f_J6_bitCount_0f7a4 (bits (Int32.toNatClampNeg ((f_X6_locationOf p0 (nI k)) &&& 255)))))), (3, .int (nI k)), (0, .ref a0), (1, .int p0)]) hx hb dX5_countOnes_29 rfl hl (by decide) rfl (fun ls hl => ?_)
        refine lv_iinc (v := (nI (k + 1))) (lv' := [(3, .int (nI (k + 1))), (2, .int ((it_X5_countOnes_4 bits p0 k) + (f_J6_bitCount_0f7a4 (bits (Int32.toNatClampNeg ((f_X6_locationOf p0 (nI k)) &&& 255)))))), (0, .ref a0), (1, .int p0)]) hx hb dX5_countOnes_30 hl (k := 1) rfl (nI_1 k) (by decide) rfl (fun ls hl => ?_)
        refine lv_goto (tgt := 4) hx hb dX5_countOnes_33 (by decide) ?_
        have ek : (it_X5_countOnes_4 bits p0 (k + 1)) = ((it_X5_countOnes_4 bits p0 k) + (f_J6_bitCount_0f7a4 (bits (Int32.toNatClampNeg ((f_X6_locationOf p0 (nI k)) &&& 255))))) := rfl
        exact ih (k + 1) (by omega) _ _ hP hD hS ls (lv_sub hl [0, 1, 2, 3] (by rw [ek]; rfl))
  exact loop_4 32 0 (by omega) _ _ hP hD hS ls (lv_sub hl [0, 1, 2, 3] rfl)
theorem okV_X5_countOnes : gOkV yX5_countOnes cX5_countOnes 4 (some .int) 1 := ⟨⟨k_im_X5_countOnes, k_se_X5_countOnes, k_in_X5, k_cd_X5_countOnes⟩, by decide, by decide, by decide +kernel⟩
def st_X5_clearBits_2 (p0 : Int32) (k : Nat) (v0_ : Nat → Int32) : (Nat → Int32) :=
  (f_X5_putWord v0_ (f_X6_locationOf p0 (nI k)) 0)
def it_X5_clearBits_2 (bits : Nat → Int32) (p0 : Int32) : Nat → (Nat → Int32)
  | 0 => bits
  | i + 1 => st_X5_clearBits_2 p0 i (it_X5_clearBits_2 bits p0 i)
def f_X5_clearBits (bits : Nat → Int32) (p0 : Int32) : (Nat → Int32) :=
  (it_X5_clearBits_2 bits p0 32)
set_option maxRecDepth 100000 in
set_option maxHeartbeats 4000000 in
theorem c_X5_clearBits (l : Launch) (G : gG) (a0 : Nat) (a1 : Nat) (a2 : Nat) (a3 : Nat) (bits : Nat → Int32) (dr : Int32) (p0 : Int32) : gM l G yX5_clearBits cX5_clearBits 3 none { frames := 1, cells := 0, slots := 0, locals := 22 } [.ref a0, .int p0] [(a0, .inr (7, [.ref a1, .ref a2, .ref a3, .int dr])), (a1, .inl (G.2.1.1, 256, .inl bits))] none [(a0, .inr (7, [.ref a1, .ref a2, .ref a3, .int dr])), (a1, .inl (G.2.1.1, 256, .inl (f_X5_clearBits bits p0)))] 0 0 := by
  refine gBegin (by decide +kernel) (Nat.le_of_ble_eq_true rfl) (fun p e s m args below meth c A F hr hlocks hname hN hK hP hD hA hS ls hl => ?_)
  obtain ⟨hx, hb, hml, hown, hts⟩ := id F
  replace hP : va_P G.1 vwCl [(a0, .inr (7, [.ref a1, .ref a2, .ref a3, .int dr])), (a1, .inl (G.2.1.1, 256, .inl bits))] s.heap := hP
  replace hl : lv_has ls 3 [(0, .ref a0), (1, .int p0)] := hl
  refine lv_iconst (v := 0) hx hb dX5_clearBits_0 (by decide) ?_
  refine lv_istore_n (lv' := [(2, .int 0), (0, .ref a0), (1, .int p0)]) hx hb dX5_clearBits_1 rfl hl (by decide) rfl (fun ls hl => ?_)
  have loop_2 : ∀ (fu k : Nat), k + fu = 32 → ∀ (H : Heap) (locs : List Loc), va_P G.1 vwCl [(a0, .inr (7, [.ref a1, .ref a2, .ref a3, .int dr])), (a1, .inl (G.2.1.1, 256, .inl (it_X5_clearBits_2 bits p0 k)))] H → va_D A [(a0, .inr (7, [.ref a1, .ref a2, .ref a3, .int dr])), (a1, .inl (G.2.1.1, 256, .inl (it_X5_clearBits_2 bits p0 k)))] → va_S A s.heap H locs → ∀ ls : Array Slot, lv_has ls 3 [(2, .int (nI k)), (0, .ref a0), (1, .int p0)] → W p l e { frames := 1, cells := 0, slots := 0, locals := 22 } s m args below meth c H locs 0 0 (MQ below (gQ G none [(a0, .inr (7, [.ref a1, .ref a2, .ref a3, .int dr])), (a1, .inl (G.2.1.1, 256, .inl (f_X5_clearBits bits p0)))] A) args s 0 0 A) (F0 m 2 ls []) := by
    intro fu
    induction fu with
    | zero =>
      intro k hk H locs hP hD hS ls hl
      have ek : 32 = k := by omega
      subst ek
      replace hP : va_P G.1 vwCl [(a0, .inr (7, [.ref a1, .ref a2, .ref a3, .int dr])), (a1, .inl (G.2.1.1, 256, .inl (it_X5_clearBits_2 bits p0 32)))] H := hP
      replace hD : va_D A [(a0, .inr (7, [.ref a1, .ref a2, .ref a3, .int dr])), (a1, .inl (G.2.1.1, 256, .inl (it_X5_clearBits_2 bits p0 32)))] := hD
      replace hl : lv_has ls 3 [(2, .int (nI 32)), (0, .ref a0), (1, .int p0)] := hl
      refine lv_iload_n hx hb dX5_clearBits_2 rfl (lv_at hl 0 rfl) ?_
      refine lv_bipush (v := 32) hx hb dX5_clearBits_3 (by decide) ?_
      refine lv_icmp_ge (tgt := 24) hx hb dX5_clearBits_5 (by decide) (fun c_1 => ?_) (fun c_1 => ?_)
      · skip
        exact gRetV F hr hlocks hK hP hD hS rfl rfl (Nat.le_of_ble_eq_true rfl) (Nat.le_of_ble_eq_true rfl) dX5_clearBits_24
      · exact absurd (Int32.le_refl _) c_1
    | succ fu ih =>
      intro k hk H locs hP hD hS ls hl
      have hlt_k : k < 32 := by omega
      refine lv_iload_n hx hb dX5_clearBits_2 rfl (lv_at hl 0 rfl) ?_
      refine lv_bipush (v := 32) hx hb dX5_clearBits_3 (by decide) ?_
      refine lv_icmp_ge (tgt := 24) hx hb dX5_clearBits_5 (by decide) (fun c_2 => ?_) (fun c_2 => ?_)
      · exact absurd c_2 (nI_ge hlt_k (by decide))
      · skip
        refine lv_aload_n hx hb dX5_clearBits_8 rfl (lv_at hl 1 rfl) ?_
        refine lv_iload_n hx hb dX5_clearBits_9 rfl (lv_at hl 2 rfl) ?_
        refine lv_iload_n hx hb dX5_clearBits_10 rfl (lv_at hl 0 rfl) ?_
        refine gSN (As := [.int p0, .int (nI k)]) (rest := [.ref a0]) (wr := [(a0, .inr (7, [.ref a1, .ref a2, .ref a3, .int dr])), (a1, .inl (G.2.1.1, 256, .inl (it_X5_clearBits_2 bits p0 k)))]) (ws' := [(a0, .inr (7, [.ref a1, .ref a2, .ref a3, .int dr])), (a1, .inl (G.2.1.1, 256, .inl (it_X5_clearBits_2 bits p0 k)))]) F (c_X6_locationOf l G p0 (nI k)) okS_X6_locationOf kn_X5_26 rfl rfl ⟨Nat.le_of_ble_eq_true rfl, Nat.le_of_ble_eq_true rfl⟩ hN hK hP hD hS hA [] [0, 1] [0, 1] (by decide) rfl rfl (by decide) (by decide) (by decide) rfl rfl rfl hl.1 (Nat.le_of_ble_eq_true rfl) dX5_clearBits_11 ⟨Nat.le_refl _, Nat.le_refl _⟩ (fun H locs hP hD hS => ?_)
        refine lv_iconst (v := 0) hx hb dX5_clearBits_14 (by decide) ?_
        refine gV (As := [.int (f_X6_locationOf p0 (nI k)), .int 0]) (rest := []) (wr := []) (ws' := [(a0, .inr (7, [.ref a1, .ref a2, .ref a3, .int dr])), (a1, .inl (G.2.1.1, 256, .inl (f_X5_putWord (it_X5_clearBits_2 bits p0 k) (f_X6_locationOf p0 (nI k)) 0)))]) F (c_X5_putWord l G a0 a1 a2 a3 (it_X5_clearBits_2 bits p0 k) dr (f_X6_locationOf p0 (nI k)) 0) okV_X5_putWord k_ml_X5_36 rfl rfl ⟨Nat.le_of_ble_eq_true rfl, Nat.le_of_ble_eq_true rfl⟩ hN hK hP hD hS hA [0, 1] [] [0, 1] (by decide) rfl rfl (by decide) (by decide) (by decide) rfl (q0 := 0) rfl rfl rfl rfl hl.1 (Nat.le_of_ble_eq_true rfl) dX5_clearBits_15 ⟨Nat.le_refl _, Nat.le_refl _⟩ (fun H locs hP hD hS => ?_)
        refine lv_iinc (v := (nI (k + 1))) (lv' := [(2, .int (nI (k + 1))), (0, .ref a0), (1, .int p0)]) hx hb dX5_clearBits_18 hl (k := 0) rfl (nI_1 k) (by decide) rfl (fun ls hl => ?_)
        refine lv_goto (tgt := 2) hx hb dX5_clearBits_21 (by decide) ?_
        have ek : (it_X5_clearBits_2 bits p0 (k + 1)) = (f_X5_putWord (it_X5_clearBits_2 bits p0 k) (f_X6_locationOf p0 (nI k)) 0) := rfl
        exact ih (k + 1) (by omega) _ _ (by rw [ek]; exact hP) (by rw [ek]; exact hD) hS ls (lv_sub hl [0, 1, 2] rfl)
  exact loop_2 32 0 (by omega) _ _ hP hD hS ls (lv_sub hl [0, 1, 2] rfl)
theorem okV_X5_clearBits : gOkV yX5_clearBits cX5_clearBits 3 none 1 := ⟨⟨k_im_X5_clearBits, k_se_X5_clearBits, k_in_X5, k_cd_X5_clearBits⟩, by decide, by decide, by decide +kernel⟩
def st_X5_exchange_2 (p0 : Int32) (p1 : Int32) (k : Nat) (v0_ : Nat → Int32) : (Nat → Int32) :=
  (f_X5_putWord (f_X5_putWord v0_ (f_X6_locationOf p0 (nI k)) (f_X5_wordAt v0_ (f_X6_locationOf p1 (nI k)))) (f_X6_locationOf p1 (nI k)) (f_X5_wordAt v0_ (f_X6_locationOf p0 (nI k))))
def it_X5_exchange_2 (bits : Nat → Int32) (p0 : Int32) (p1 : Int32) : Nat → (Nat → Int32)
  | 0 => bits
  | i + 1 => st_X5_exchange_2 p0 p1 i (it_X5_exchange_2 bits p0 p1 i)
def f_X5_exchange (bits : Nat → Int32) (slips : Nat → Int32) (p0 : Int32) (p1 : Int32) : (Nat → Int32) × (Nat → Int32) :=
  ((it_X5_exchange_2 bits p0 p1 32), (upd (upd slips (Int32.toNatClampNeg (p0 &&& 7)) (f_X5_slipCountOf slips p1)) (Int32.toNatClampNeg (p1 &&& 7)) (f_X5_slipCountOf slips p0)))
set_option maxRecDepth 100000 in
set_option maxHeartbeats 4000000 in
theorem c_X5_exchange (l : Launch) (G : gG) (a0 : Nat) (a1 : Nat) (a2 : Nat) (a3 : Nat) (bits : Nat → Int32) (slips : Nat → Int32) (dr : Int32) (p0 : Int32) (p1 : Int32) : gM l G yX5_exchange cX5_exchange 5 none { frames := 2, cells := 0, slots := 0, locals := 43 } [.ref a0, .int p0, .int p1] [(a0, .inr (7, [.ref a1, .ref a2, .ref a3, .int dr])), (a1, .inl (G.2.1.1, 256, .inl bits)), (a3, .inl (G.2.1.1, 8, .inl slips))] none [(a0, .inr (7, [.ref a1, .ref a2, .ref a3, .int dr])), (a1, .inl (G.2.1.1, 256, .inl ((f_X5_exchange bits slips p0 p1).1))), (a3, .inl (G.2.1.1, 8, .inl ((f_X5_exchange bits slips p0 p1).2)))] 0 0 := by
  refine gBegin (by decide +kernel) (Nat.le_of_ble_eq_true rfl) (fun p e s m args below meth c A F hr hlocks hname hN hK hP hD hA hS ls hl => ?_)
  obtain ⟨hx, hb, hml, hown, hts⟩ := id F
  replace hP : va_P G.1 vwCl [(a0, .inr (7, [.ref a1, .ref a2, .ref a3, .int dr])), (a1, .inl (G.2.1.1, 256, .inl bits)), (a3, .inl (G.2.1.1, 8, .inl slips))] s.heap := hP
  replace hl : lv_has ls 5 [(0, .ref a0), (1, .int p0), (2, .int p1)] := hl
  refine lv_iconst (v := 0) hx hb dX5_exchange_0 (by decide) ?_
  refine lv_istore_n (lv' := [(3, .int 0), (0, .ref a0), (1, .int p0), (2, .int p1)]) hx hb dX5_exchange_1 rfl hl (by decide) rfl (fun ls hl => ?_)
  have loop_2 : ∀ (fu k : Nat), k + fu = 32 → ∀ (H : Heap) (locs : List Loc), va_P G.1 vwCl [(a0, .inr (7, [.ref a1, .ref a2, .ref a3, .int dr])), (a1, .inl (G.2.1.1, 256, .inl (it_X5_exchange_2 bits p0 p1 k))), (a3, .inl (G.2.1.1, 8, .inl slips))] H → va_D A [(a0, .inr (7, [.ref a1, .ref a2, .ref a3, .int dr])), (a1, .inl (G.2.1.1, 256, .inl (it_X5_exchange_2 bits p0 p1 k))), (a3, .inl (G.2.1.1, 8, .inl slips))] → va_S A s.heap H locs → ∀ ls : Array Slot, lv_has ls 5 [(3, .int (nI k)), (0, .ref a0), (1, .int p0), (2, .int p1)] → W p l e { frames := 2, cells := 0, slots := 0, locals := 43 } s m args below meth c H locs 0 0 (MQ below (gQ G none [(a0, .inr (7, [.ref a1, .ref a2, .ref a3, .int dr])), (a1, .inl (G.2.1.1, 256, .inl ((f_X5_exchange bits slips p0 p1).1))), (a3, .inl (G.2.1.1, 8, .inl ((f_X5_exchange bits slips p0 p1).2)))] A) args s 0 0 A) (F0 m 2 ls []) := by
    intro fu
    induction fu with
    | zero =>
      intro k hk H locs hP hD hS ls hl
      have ek : 32 = k := by omega
      subst ek
      replace hP : va_P G.1 vwCl [(a0, .inr (7, [.ref a1, .ref a2, .ref a3, .int dr])), (a1, .inl (G.2.1.1, 256, .inl (it_X5_exchange_2 bits p0 p1 32))), (a3, .inl (G.2.1.1, 8, .inl slips))] H := hP
      replace hD : va_D A [(a0, .inr (7, [.ref a1, .ref a2, .ref a3, .int dr])), (a1, .inl (G.2.1.1, 256, .inl (it_X5_exchange_2 bits p0 p1 32))), (a3, .inl (G.2.1.1, 8, .inl slips))] := hD
      replace hl : lv_has ls 5 [(3, .int (nI 32)), (0, .ref a0), (1, .int p0), (2, .int p1)] := hl
      refine lv_iload_n hx hb dX5_exchange_2 rfl (lv_at hl 0 rfl) ?_
      refine lv_bipush (v := 32) hx hb dX5_exchange_3 (by decide) ?_
      refine lv_icmp_ge (tgt := 54) hx hb dX5_exchange_5 (by decide) (fun c_1 => ?_) (fun c_1 => ?_)
      · skip
        refine lv_aload_n hx hb dX5_exchange_54 rfl (lv_at hl 1 rfl) ?_
        refine lv_iload_n hx hb dX5_exchange_55 rfl (lv_at hl 2 rfl) ?_
        refine gV (As := [.int p0]) (rest := []) (wr := [(a1, .inl (G.2.1.1, 256, .inl (it_X5_exchange_2 bits p0 p1 32)))]) (ws' := [(a0, .inr (7, [.ref a1, .ref a2, .ref a3, .int dr])), (a1, .inl (G.2.1.1, 256, .inl (it_X5_exchange_2 bits p0 p1 32))), (a3, .inl (G.2.1.1, 8, .inl slips))]) F (c_X5_slipCountOf l G a0 a1 a2 a3 slips dr p0) okV_X5_slipCountOf k_ml_X5_43 rfl rfl ⟨Nat.le_of_ble_eq_true rfl, Nat.le_of_ble_eq_true rfl⟩ hN hK hP hD hS hA [0, 2] [1] [1, 0, 2] (by decide) rfl rfl (by decide) (by decide) (by decide) rfl (q0 := 0) rfl rfl rfl rfl hl.1 (Nat.le_of_ble_eq_true rfl) dX5_exchange_56 ⟨Nat.le_refl _, Nat.le_refl _⟩ (fun H locs hP hD hS => ?_)
        refine lv_istore_n (lv' := [(3, .int (f_X5_slipCountOf slips p0)), (0, .ref a0), (1, .int p0), (2, .int p1)]) hx hb dX5_exchange_59 rfl hl (by decide) rfl (fun ls hl => ?_)
        refine lv_aload_n hx hb dX5_exchange_60 rfl (lv_at hl 1 rfl) ?_
        refine va_get (D := G.1) (ci := 7) (v := .ref a3) (C := RX5) (T := TX5) (N := 4) hx hb hts in_X5 hown hK hP 0 rfl rfl 2 (by decide) (hts _ k_fl_X5_18) (fun _ h9 => h9) rfl dX5_exchange_61 ?_
        refine lv_iload_n hx hb dX5_exchange_64 rfl (lv_at hl 2 rfl) ?_
        refine lv_bipush (v := 7) hx hb dX5_exchange_65 (by decide) ?_
        refine lv_iand hx hb dX5_exchange_67 ?_
        refine lv_aload_n hx hb dX5_exchange_68 rfl (lv_at hl 1 rfl) ?_
        refine lv_iload_n hx hb dX5_exchange_69 rfl (lv_at hl 3 rfl) ?_
        refine gV (As := [.int p1]) (rest := [.int (p0 &&& 7), .ref a3]) (wr := [(a1, .inl (G.2.1.1, 256, .inl (it_X5_exchange_2 bits p0 p1 32)))]) (ws' := [(a0, .inr (7, [.ref a1, .ref a2, .ref a3, .int dr])), (a1, .inl (G.2.1.1, 256, .inl (it_X5_exchange_2 bits p0 p1 32))), (a3, .inl (G.2.1.1, 8, .inl slips))]) F (c_X5_slipCountOf l G a0 a1 a2 a3 slips dr p1) okV_X5_slipCountOf k_ml_X5_43 rfl rfl ⟨Nat.le_of_ble_eq_true rfl, Nat.le_of_ble_eq_true rfl⟩ hN hK hP hD hS hA [0, 2] [1] [1, 0, 2] (by decide) rfl rfl (by decide) (by decide) (by decide) rfl (q0 := 0) rfl rfl rfl rfl hl.1 (Nat.le_of_ble_eq_true rfl) dX5_exchange_70 ⟨Nat.le_refl _, Nat.le_refl _⟩ (fun H locs hP hD hS => ?_)
        refine va_iast hx hb hK hP hD hS 2 0 rfl rfl (pk_andIn _ 3 (by decide) (by decide)) dX5_exchange_73 (fun H locs hP hD hS => ?_)
        replace hP : va_P G.1 vwCl [(a0, .inr (7, [.ref a1, .ref a2, .ref a3, .int dr])), (a1, .inl (G.2.1.1, 256, .inl (it_X5_exchange_2 bits p0 p1 32))), (a3, .inl (G.2.1.1, 8, .inl (upd slips (Int32.toNatClampNeg (p0 &&& 7)) (f_X5_slipCountOf slips p1))))] H := hP
        replace hD : va_D A [(a0, .inr (7, [.ref a1, .ref a2, .ref a3, .int dr])), (a1, .inl (G.2.1.1, 256, .inl (it_X5_exchange_2 bits p0 p1 32))), (a3, .inl (G.2.1.1, 8, .inl (upd slips (Int32.toNatClampNeg (p0 &&& 7)) (f_X5_slipCountOf slips p1))))] := hD
        refine lv_aload_n hx hb dX5_exchange_74 rfl (lv_at hl 1 rfl) ?_
        refine va_get (D := G.1) (ci := 7) (v := .ref a3) (C := RX5) (T := TX5) (N := 4) hx hb hts in_X5 hown hK hP 0 rfl rfl 2 (by decide) (hts _ k_fl_X5_18) (fun _ h9 => h9) rfl dX5_exchange_75 ?_
        refine lv_iload_n hx hb dX5_exchange_78 rfl (lv_at hl 3 rfl) ?_
        refine lv_bipush (v := 7) hx hb dX5_exchange_79 (by decide) ?_
        refine lv_iand hx hb dX5_exchange_81 ?_
        refine lv_iload_n hx hb dX5_exchange_82 rfl (lv_at hl 0 rfl) ?_
        refine va_iast hx hb hK hP hD hS 2 0 rfl rfl (pk_andIn _ 3 (by decide) (by decide)) dX5_exchange_83 (fun H locs hP hD hS => ?_)
        replace hP : va_P G.1 vwCl [(a0, .inr (7, [.ref a1, .ref a2, .ref a3, .int dr])), (a1, .inl (G.2.1.1, 256, .inl (it_X5_exchange_2 bits p0 p1 32))), (a3, .inl (G.2.1.1, 8, .inl (upd (upd slips (Int32.toNatClampNeg (p0 &&& 7)) (f_X5_slipCountOf slips p1)) (Int32.toNatClampNeg (p1 &&& 7)) (f_X5_slipCountOf slips p0))))] H := hP
        replace hD : va_D A [(a0, .inr (7, [.ref a1, .ref a2, .ref a3, .int dr])), (a1, .inl (G.2.1.1, 256, .inl (it_X5_exchange_2 bits p0 p1 32))), (a3, .inl (G.2.1.1, 8, .inl (upd (upd slips (Int32.toNatClampNeg (p0 &&& 7)) (f_X5_slipCountOf slips p1)) (Int32.toNatClampNeg (p1 &&& 7)) (f_X5_slipCountOf slips p0))))] := hD
        exact gRetV F hr hlocks hK hP hD hS rfl rfl (Nat.le_of_ble_eq_true rfl) (Nat.le_of_ble_eq_true rfl) dX5_exchange_84
      · exact absurd (Int32.le_refl _) c_1
    | succ fu ih =>
      intro k hk H locs hP hD hS ls hl
      have hlt_k : k < 32 := by omega
      refine lv_iload_n hx hb dX5_exchange_2 rfl (lv_at hl 0 rfl) ?_
      refine lv_bipush (v := 32) hx hb dX5_exchange_3 (by decide) ?_
      refine lv_icmp_ge (tgt := 54) hx hb dX5_exchange_5 (by decide) (fun c_2 => ?_) (fun c_2 => ?_)
      · exact absurd c_2 (nI_ge hlt_k (by decide))
      · skip
        refine lv_aload_n hx hb dX5_exchange_8 rfl (lv_at hl 1 rfl) ?_
        refine lv_iload_n hx hb dX5_exchange_9 rfl (lv_at hl 2 rfl) ?_
        refine lv_iload_n hx hb dX5_exchange_10 rfl (lv_at hl 0 rfl) ?_
        refine gSN (As := [.int p0, .int (nI k)]) (rest := [.ref a0]) (wr := [(a0, .inr (7, [.ref a1, .ref a2, .ref a3, .int dr])), (a1, .inl (G.2.1.1, 256, .inl (it_X5_exchange_2 bits p0 p1 k))), (a3, .inl (G.2.1.1, 8, .inl slips))]) (ws' := [(a0, .inr (7, [.ref a1, .ref a2, .ref a3, .int dr])), (a1, .inl (G.2.1.1, 256, .inl (it_X5_exchange_2 bits p0 p1 k))), (a3, .inl (G.2.1.1, 8, .inl slips))]) F (c_X6_locationOf l G p0 (nI k)) okS_X6_locationOf kn_X5_26 rfl rfl ⟨Nat.le_of_ble_eq_true rfl, Nat.le_of_ble_eq_true rfl⟩ hN hK hP hD hS hA [] [0, 1, 2] [0, 1, 2] (by decide) rfl rfl (by decide) (by decide) (by decide) rfl rfl rfl hl.1 (Nat.le_of_ble_eq_true rfl) dX5_exchange_11 ⟨Nat.le_refl _, Nat.le_refl _⟩ (fun H locs hP hD hS => ?_)
        refine gV (As := [.int (f_X6_locationOf p0 (nI k))]) (rest := []) (wr := [(a3, .inl (G.2.1.1, 8, .inl slips))]) (ws' := [(a0, .inr (7, [.ref a1, .ref a2, .ref a3, .int dr])), (a1, .inl (G.2.1.1, 256, .inl (it_X5_exchange_2 bits p0 p1 k))), (a3, .inl (G.2.1.1, 8, .inl slips))]) F (c_X5_wordAt l G a0 a1 a2 a3 (it_X5_exchange_2 bits p0 p1 k) dr (f_X6_locationOf p0 (nI k))) okV_X5_wordAt k_ml_X5_40 rfl rfl ⟨Nat.le_of_ble_eq_true rfl, Nat.le_of_ble_eq_true rfl⟩ hN hK hP hD hS hA [0, 1] [2] [1, 2, 0] (by decide) rfl rfl (by decide) (by decide) (by decide) rfl (q0 := 0) rfl rfl rfl rfl hl.1 (Nat.le_of_ble_eq_true rfl) dX5_exchange_14 ⟨Nat.le_refl _, Nat.le_refl _⟩ (fun H locs hP hD hS => ?_)
        refine lv_istore (lv' := [(4, .int (f_X5_wordAt (it_X5_exchange_2 bits p0 p1 k) (f_X6_locationOf p0 (nI k)))), (3, .int (nI k)), (0, .ref a0), (1, .int p0), (2, .int p1)]) hx hb dX5_exchange_17 hl (by decide) rfl (fun ls hl => ?_)
        refine lv_aload_n hx hb dX5_exchange_19 rfl (lv_at hl 2 rfl) ?_
        refine lv_iload_n hx hb dX5_exchange_20 rfl (lv_at hl 3 rfl) ?_
        refine lv_iload_n hx hb dX5_exchange_21 rfl (lv_at hl 1 rfl) ?_
        refine gSN (As := [.int p0, .int (nI k)]) (rest := [.ref a0]) (wr := [(a0, .inr (7, [.ref a1, .ref a2, .ref a3, .int dr])), (a1, .inl (G.2.1.1, 256, .inl (it_X5_exchange_2 bits p0 p1 k))), (a3, .inl (G.2.1.1, 8, .inl slips))]) (ws' := [(a0, .inr (7, [.ref a1, .ref a2, .ref a3, .int dr])), (a1, .inl (G.2.1.1, 256, .inl (it_X5_exchange_2 bits p0 p1 k))), (a3, .inl (G.2.1.1, 8, .inl slips))]) F (c_X6_locationOf l G p0 (nI k)) okS_X6_locationOf kn_X5_26 rfl rfl ⟨Nat.le_of_ble_eq_true rfl, Nat.le_of_ble_eq_true rfl⟩ hN hK hP hD hS hA [] [0, 1, 2] [0, 1, 2] (by decide) rfl rfl (by decide) (by decide) (by decide) rfl rfl rfl hl.1 (Nat.le_of_ble_eq_true rfl) dX5_exchange_22 ⟨Nat.le_refl _, Nat.le_refl _⟩ (fun H locs hP hD hS => ?_)
        refine lv_aload_n hx hb dX5_exchange_25 rfl (lv_at hl 2 rfl) ?_
        refine lv_iload_n hx hb dX5_exchange_26 rfl (lv_at hl 4 rfl) ?_
        refine lv_iload_n hx hb dX5_exchange_27 rfl (lv_at hl 1 rfl) ?_
        refine gSN (As := [.int p1, .int (nI k)]) (rest := [.ref a0, .int (f_X6_locationOf p0 (nI k)), .ref a0]) (wr := [(a0, .inr (7, [.ref a1, .ref a2, .ref a3, .int dr])), (a1, .inl (G.2.1.1, 256, .inl (it_X5_exchange_2 bits p0 p1 k))), (a3, .inl (G.2.1.1, 8, .inl slips))]) (ws' := [(a0, .inr (7, [.ref a1, .ref a2, .ref a3, .int dr])), (a1, .inl (G.2.1.1, 256, .inl (it_X5_exchange_2 bits p0 p1 k))), (a3, .inl (G.2.1.1, 8, .inl slips))]) F (c_X6_locationOf l G p1 (nI k)) okS_X6_locationOf kn_X5_26 rfl rfl ⟨Nat.le_of_ble_eq_true rfl, Nat.le_of_ble_eq_true rfl⟩ hN hK hP hD hS hA [] [0, 1, 2] [0, 1, 2] (by decide) rfl rfl (by decide) (by decide) (by decide) rfl rfl rfl hl.1 (Nat.le_of_ble_eq_true rfl) dX5_exchange_28 ⟨Nat.le_refl _, Nat.le_refl _⟩ (fun H locs hP hD hS => ?_)
        refine gV (As := [.int (f_X6_locationOf p1 (nI k))]) (rest := [.int (f_X6_locationOf p0 (nI k)), .ref a0]) (wr := [(a3, .inl (G.2.1.1, 8, .inl slips))]) (ws' := [(a0, .inr (7, [.ref a1, .ref a2, .ref a3, .int dr])), (a1, .inl (G.2.1.1, 256, .inl (it_X5_exchange_2 bits p0 p1 k))), (a3, .inl (G.2.1.1, 8, .inl slips))]) F (c_X5_wordAt l G a0 a1 a2 a3 (it_X5_exchange_2 bits p0 p1 k) dr (f_X6_locationOf p1 (nI k))) okV_X5_wordAt k_ml_X5_40 rfl rfl ⟨Nat.le_of_ble_eq_true rfl, Nat.le_of_ble_eq_true rfl⟩ hN hK hP hD hS hA [0, 1] [2] [1, 2, 0] (by decide) rfl rfl (by decide) (by decide) (by decide) rfl (q0 := 0) rfl rfl rfl rfl hl.1 (Nat.le_of_ble_eq_true rfl) dX5_exchange_31 ⟨Nat.le_refl _, Nat.le_refl _⟩ (fun H locs hP hD hS => ?_)
        refine gV (As := [.int (f_X6_locationOf p0 (nI k)), .int (f_X5_wordAt (it_X5_exchange_2 bits p0 p1 k) (f_X6_locationOf p1 (nI k)))]) (rest := []) (wr := [(a3, .inl (G.2.1.1, 8, .inl slips))]) (ws' := [(a0, .inr (7, [.ref a1, .ref a2, .ref a3, .int dr])), (a1, .inl (G.2.1.1, 256, .inl (f_X5_putWord (it_X5_exchange_2 bits p0 p1 k) (f_X6_locationOf p0 (nI k)) (f_X5_wordAt (it_X5_exchange_2 bits p0 p1 k) (f_X6_locationOf p1 (nI k)))))), (a3, .inl (G.2.1.1, 8, .inl slips))]) F (c_X5_putWord l G a0 a1 a2 a3 (it_X5_exchange_2 bits p0 p1 k) dr (f_X6_locationOf p0 (nI k)) (f_X5_wordAt (it_X5_exchange_2 bits p0 p1 k) (f_X6_locationOf p1 (nI k)))) okV_X5_putWord k_ml_X5_36 rfl rfl ⟨Nat.le_of_ble_eq_true rfl, Nat.le_of_ble_eq_true rfl⟩ hN hK hP hD hS hA [0, 1] [2] [1, 2, 0] (by decide) rfl rfl (by decide) (by decide) (by decide) rfl (q0 := 0) rfl rfl rfl rfl hl.1 (Nat.le_of_ble_eq_true rfl) dX5_exchange_34 ⟨Nat.le_refl _, Nat.le_refl _⟩ (fun H locs hP hD hS => ?_)
        refine lv_aload_n hx hb dX5_exchange_37 rfl (lv_at hl 2 rfl) ?_
        refine lv_iload_n hx hb dX5_exchange_38 rfl (lv_at hl 4 rfl) ?_
        refine lv_iload_n hx hb dX5_exchange_39 rfl (lv_at hl 1 rfl) ?_
        refine gSN (As := [.int p1, .int (nI k)]) (rest := [.ref a0]) (wr := [(a0, .inr (7, [.ref a1, .ref a2, .ref a3, .int dr])), (a1, .inl (G.2.1.1, 256, .inl (f_X5_putWord (it_X5_exchange_2 bits p0 p1 k) (f_X6_locationOf p0 (nI k)) (f_X5_wordAt (it_X5_exchange_2 bits p0 p1 k) (f_X6_locationOf p1 (nI k)))))), (a3, .inl (G.2.1.1, 8, .inl slips))]) (ws' := [(a0, .inr (7, [.ref a1, .ref a2, .ref a3, .int dr])), (a1, .inl (G.2.1.1, 256, .inl (f_X5_putWord (it_X5_exchange_2 bits p0 p1 k) (f_X6_locationOf p0 (nI k)) (f_X5_wordAt (it_X5_exchange_2 bits p0 p1 k) (f_X6_locationOf p1 (nI k)))))), (a3, .inl (G.2.1.1, 8, .inl slips))]) F (c_X6_locationOf l G p1 (nI k)) okS_X6_locationOf kn_X5_26 rfl rfl ⟨Nat.le_of_ble_eq_true rfl, Nat.le_of_ble_eq_true rfl⟩ hN hK hP hD hS hA [] [0, 1, 2] [0, 1, 2] (by decide) rfl rfl (by decide) (by decide) (by decide) rfl rfl rfl hl.1 (Nat.le_of_ble_eq_true rfl) dX5_exchange_40 ⟨Nat.le_refl _, Nat.le_refl _⟩ (fun H locs hP hD hS => ?_)
        refine lv_iload hx hb dX5_exchange_43 (lv_at hl 0 rfl) ?_
        refine gV (As := [.int (f_X6_locationOf p1 (nI k)), .int (f_X5_wordAt (it_X5_exchange_2 bits p0 p1 k) (f_X6_locationOf p0 (nI k)))]) (rest := []) (wr := [(a3, .inl (G.2.1.1, 8, .inl slips))]) (ws' := [(a0, .inr (7, [.ref a1, .ref a2, .ref a3, .int dr])), (a1, .inl (G.2.1.1, 256, .inl (f_X5_putWord (f_X5_putWord (it_X5_exchange_2 bits p0 p1 k) (f_X6_locationOf p0 (nI k)) (f_X5_wordAt (it_X5_exchange_2 bits p0 p1 k) (f_X6_locationOf p1 (nI k)))) (f_X6_locationOf p1 (nI k)) (f_X5_wordAt (it_X5_exchange_2 bits p0 p1 k) (f_X6_locationOf p0 (nI k)))))), (a3, .inl (G.2.1.1, 8, .inl slips))]) F (c_X5_putWord l G a0 a1 a2 a3 (f_X5_putWord (it_X5_exchange_2 bits p0 p1 k) (f_X6_locationOf p0 (nI k)) (f_X5_wordAt (it_X5_exchange_2 bits p0 p1 k) (f_X6_locationOf p1 (nI k)))) dr (f_X6_locationOf p1 (nI k)) (f_X5_wordAt (it_X5_exchange_2 bits p0 p1 k) (f_X6_locationOf p0 (nI k)))) okV_X5_putWord k_ml_X5_36 rfl rfl ⟨Nat.le_of_ble_eq_true rfl, Nat.le_of_ble_eq_true rfl⟩ hN hK hP hD hS hA [0, 1] [2] [1, 2, 0] (by decide) rfl rfl (by decide) (by decide) (by decide) rfl (q0 := 0) rfl rfl rfl rfl hl.1 (Nat.le_of_ble_eq_true rfl) dX5_exchange_45 ⟨Nat.le_refl _, Nat.le_refl _⟩ (fun H locs hP hD hS => ?_)
        refine lv_iinc (v := (nI (k + 1))) (lv' := [(3, .int (nI (k + 1))), (4, .int (f_X5_wordAt (it_X5_exchange_2 bits p0 p1 k) (f_X6_locationOf p0 (nI k)))), (0, .ref a0), (1, .int p0), (2, .int p1)]) hx hb dX5_exchange_48 hl (k := 1) rfl (nI_1 k) (by decide) rfl (fun ls hl => ?_)
        refine lv_goto (tgt := 2) hx hb dX5_exchange_51 (by decide) ?_
        have ek : (it_X5_exchange_2 bits p0 p1 (k + 1)) = (f_X5_putWord (f_X5_putWord (it_X5_exchange_2 bits p0 p1 k) (f_X6_locationOf p0 (nI k)) (f_X5_wordAt (it_X5_exchange_2 bits p0 p1 k) (f_X6_locationOf p1 (nI k)))) (f_X6_locationOf p1 (nI k)) (f_X5_wordAt (it_X5_exchange_2 bits p0 p1 k) (f_X6_locationOf p0 (nI k)))) := rfl
        exact ih (k + 1) (by omega) _ _ (by rw [ek]; exact hP) (by rw [ek]; exact hD) hS ls (lv_sub hl [0, 2, 3, 4] rfl)
  exact loop_2 32 0 (by omega) _ _ hP hD hS ls (lv_sub hl [0, 1, 2, 3] rfl)
theorem okV_X5_exchange : gOkV yX5_exchange cX5_exchange 5 none 2 := ⟨⟨k_im_X5_exchange, k_se_X5_exchange, k_in_X5, k_cd_X5_exchange⟩, by decide, by decide, by decide +kernel⟩
def st_X5_moveBits_28 (bits : Nat → Int32) (p0 : Int32) (k : Nat) (v0_ : Nat → Int32) : (Nat → Int32) :=
  (upd v0_ k (bits (Int32.toNatClampNeg ((f_X6_locationOf p0 (nI k)) &&& 255))))
def it_X5_moveBits_28 (bits : Nat → Int32) (ring : Nat → Int32) (p0 : Int32) : Nat → (Nat → Int32)
  | 0 => ring
  | i + 1 => st_X5_moveBits_28 bits p0 i (it_X5_moveBits_28 bits ring p0 i)
def st_X5_moveBits_66 (bits : Nat → Int32) (ring : Nat → Int32) (p0 : Int32) (p1 : Int32) (k : Nat) (v0_ : Nat → Int32) : (Nat → Int32) :=
  (upd v0_ (Int32.toNatClampNeg ((f_X6_locationOf p0 (nI k)) &&& 255)) ((((((it_X5_moveBits_28 bits ring p0 32) (Int32.toNatClampNeg (f_X6_cycleOf ((nI k) - ((f_J9_floorMod_7cf53 p1 640) / 20))))) <<< (((f_J9_floorMod_7cf53 p1 640) % 20) &&& 31)) : Int32) ||| ((((it_X5_moveBits_28 bits ring p0 32) (Int32.toNatClampNeg (f_X6_cycleOf (((nI k) - ((f_J9_floorMod_7cf53 p1 640) / 20)) - 1)))) >>> ((20 - ((f_J9_floorMod_7cf53 p1 640) % 20)) &&& 31)) : Int32)) &&& 1048575))
def it_X5_moveBits_66 (bits : Nat → Int32) (ring : Nat → Int32) (p0 : Int32) (p1 : Int32) : Nat → (Nat → Int32)
  | 0 => bits
  | i + 1 => st_X5_moveBits_66 bits ring p0 p1 i (it_X5_moveBits_66 bits ring p0 p1 i)
def f_X5_moveBits (bits : Nat → Int32) (ring : Nat → Int32) (slips : Nat → Int32) (p0 : Int32) (p1 : Int32) : (Nat → Int32) × (Nat → Int32) × (Nat → Int32) :=
  if p1 = 0 then
    (bits, ring, slips)
  else
    ((it_X5_moveBits_66 bits ring p0 p1 32), (it_X5_moveBits_28 bits ring p0 32), (upd slips (Int32.toNatClampNeg (p0 &&& 7)) ((slips (Int32.toNatClampNeg (p0 &&& 7))) + (f_J9_abs_0f7a4 p1))))
set_option maxRecDepth 100000 in
set_option maxHeartbeats 4000000 in
theorem c_X5_moveBits (l : Launch) (G : gG) (a0 : Nat) (a1 : Nat) (a2 : Nat) (a3 : Nat) (bits : Nat → Int32) (ring : Nat → Int32) (slips : Nat → Int32) (dr : Int32) (p0 : Int32) (p1 : Int32) : gM l G yX5_moveBits cX5_moveBits 9 none { frames := 1, cells := 0, slots := 0, locals := 22 } [.ref a0, .int p0, .int p1] [(a0, .inr (7, [.ref a1, .ref a2, .ref a3, .int dr])), (a1, .inl (G.2.1.1, 256, .inl bits)), (a2, .inl (G.2.1.1, 32, .inl ring)), (a3, .inl (G.2.1.1, 8, .inl slips))] none [(a0, .inr (7, [.ref a1, .ref a2, .ref a3, .int dr])), (a1, .inl (G.2.1.1, 256, .inl ((f_X5_moveBits bits ring slips p0 p1).1))), (a2, .inl (G.2.1.1, 32, .inl ((f_X5_moveBits bits ring slips p0 p1).2.1))), (a3, .inl (G.2.1.1, 8, .inl ((f_X5_moveBits bits ring slips p0 p1).2.2)))] 0 0 := by
  refine gBegin (by decide +kernel) (Nat.le_of_ble_eq_true rfl) (fun p e s m args below meth c A F hr hlocks hname hN hK hP hD hA hS ls hl => ?_)
  obtain ⟨hx, hb, hml, hown, hts⟩ := id F
  replace hP : va_P G.1 vwCl [(a0, .inr (7, [.ref a1, .ref a2, .ref a3, .int dr])), (a1, .inl (G.2.1.1, 256, .inl bits)), (a2, .inl (G.2.1.1, 32, .inl ring)), (a3, .inl (G.2.1.1, 8, .inl slips))] s.heap := hP
  replace hl : lv_has ls 9 [(0, .ref a0), (1, .int p0), (2, .int p1)] := hl
  refine lv_iload_n hx hb dX5_moveBits_0 rfl (lv_at hl 2 rfl) ?_
  refine lv_if_ne (tgt := 5) hx hb dX5_moveBits_1 (by decide) (fun c_1 => ?_) (fun c_1 => ?_)
  · skip
    refine lv_iload_n hx hb dX5_moveBits_5 rfl (lv_at hl 2 rfl) ?_
    refine lv_sipush (v := 640) hx hb dX5_moveBits_6 (by decide) ?_
    refine gS (As := [.int p1, .int 640]) (rest := []) (wr := [(a0, .inr (7, [.ref a1, .ref a2, .ref a3, .int dr])), (a1, .inl (G.2.1.1, 256, .inl bits)), (a2, .inl (G.2.1.1, 32, .inl ring)), (a3, .inl (G.2.1.1, 8, .inl slips))]) (ws' := [(a0, .inr (7, [.ref a1, .ref a2, .ref a3, .int dr])), (a1, .inl (G.2.1.1, 256, .inl bits)), (a2, .inl (G.2.1.1, 32, .inl ring)), (a3, .inl (G.2.1.1, 8, .inl slips))]) F (c_J9_floorMod_7cf53 l G p1 640 (by decide)) okS_J9_floorMod_7cf53 k_ml_X5_46 rfl rfl ⟨Nat.le_of_ble_eq_true rfl, Nat.le_of_ble_eq_true rfl⟩ hN hK hP hD hS hA [] [0, 1, 2, 3] [0, 1, 2, 3] (by decide) rfl rfl (by decide) (by decide) (by decide) rfl rfl rfl hl.1 (Nat.le_of_ble_eq_true rfl) dX5_moveBits_9 ⟨Nat.le_refl _, Nat.le_refl _⟩ (fun H locs hP hD hS => ?_)
    refine lv_istore_n (lv' := [(3, .int (f_J9_floorMod_7cf53 p1 640)), (0, .ref a0), (1, .int p0), (2, .int p1)]) hx hb dX5_moveBits_12 rfl hl (by decide) rfl (fun ls hl => ?_)
    refine lv_iload_n hx hb dX5_moveBits_13 rfl (lv_at hl 0 rfl) ?_
    refine lv_bipush (v := 20) hx hb dX5_moveBits_14 (by decide) ?_
    refine lv_idiv hx hb dX5_moveBits_16 (by decide) ?_
    refine lv_istore (lv' := [(4, .int ((f_J9_floorMod_7cf53 p1 640) / 20)), (3, .int (f_J9_floorMod_7cf53 p1 640)), (0, .ref a0), (1, .int p0), (2, .int p1)]) hx hb dX5_moveBits_17 hl (by decide) rfl (fun ls hl => ?_)
    refine lv_iload_n hx hb dX5_moveBits_19 rfl (lv_at hl 1 rfl) ?_
    refine lv_bipush (v := 20) hx hb dX5_moveBits_20 (by decide) ?_
    refine gIrem hx hb dX5_moveBits_22 (by decide) ?_
    refine lv_istore (lv' := [(5, .int ((f_J9_floorMod_7cf53 p1 640) % 20)), (4, .int ((f_J9_floorMod_7cf53 p1 640) / 20)), (3, .int (f_J9_floorMod_7cf53 p1 640)), (0, .ref a0), (1, .int p0), (2, .int p1)]) hx hb dX5_moveBits_23 hl (by decide) rfl (fun ls hl => ?_)
    refine lv_iconst (v := 0) hx hb dX5_moveBits_25 (by decide) ?_
    refine lv_istore (lv' := [(6, .int 0), (5, .int ((f_J9_floorMod_7cf53 p1 640) % 20)), (4, .int ((f_J9_floorMod_7cf53 p1 640) / 20)), (3, .int (f_J9_floorMod_7cf53 p1 640)), (0, .ref a0), (1, .int p0), (2, .int p1)]) hx hb dX5_moveBits_26 hl (by decide) rfl (fun ls hl => ?_)
    have loop_28 : ∀ (fu k : Nat), k + fu = 32 → ∀ (H : Heap) (locs : List Loc), va_P G.1 vwCl [(a0, .inr (7, [.ref a1, .ref a2, .ref a3, .int dr])), (a1, .inl (G.2.1.1, 256, .inl bits)), (a2, .inl (G.2.1.1, 32, .inl (it_X5_moveBits_28 bits ring p0 k))), (a3, .inl (G.2.1.1, 8, .inl slips))] H → va_D A [(a0, .inr (7, [.ref a1, .ref a2, .ref a3, .int dr])), (a1, .inl (G.2.1.1, 256, .inl bits)), (a2, .inl (G.2.1.1, 32, .inl (it_X5_moveBits_28 bits ring p0 k))), (a3, .inl (G.2.1.1, 8, .inl slips))] → va_S A s.heap H locs → ∀ ls : Array Slot, lv_has ls 9 [(6, .int (nI k)), (5, .int ((f_J9_floorMod_7cf53 p1 640) % 20)), (4, .int ((f_J9_floorMod_7cf53 p1 640) / 20)), (3, .int (f_J9_floorMod_7cf53 p1 640)), (0, .ref a0), (1, .int p0), (2, .int p1)] → W p l e { frames := 1, cells := 0, slots := 0, locals := 22 } s m args below meth c H locs 0 0 (MQ below (gQ G none [(a0, .inr (7, [.ref a1, .ref a2, .ref a3, .int dr])), (a1, .inl (G.2.1.1, 256, .inl ((f_X5_moveBits bits ring slips p0 p1).1))), (a2, .inl (G.2.1.1, 32, .inl ((f_X5_moveBits bits ring slips p0 p1).2.1))), (a3, .inl (G.2.1.1, 8, .inl ((f_X5_moveBits bits ring slips p0 p1).2.2)))] A) args s 0 0 A) (F0 m 28 ls []) := by
      intro fu
      induction fu with
      | zero =>
        intro k hk H locs hP hD hS ls hl
        have ek : 32 = k := by omega
        subst ek
        replace hP : va_P G.1 vwCl [(a0, .inr (7, [.ref a1, .ref a2, .ref a3, .int dr])), (a1, .inl (G.2.1.1, 256, .inl bits)), (a2, .inl (G.2.1.1, 32, .inl (it_X5_moveBits_28 bits ring p0 32))), (a3, .inl (G.2.1.1, 8, .inl slips))] H := hP
        replace hD : va_D A [(a0, .inr (7, [.ref a1, .ref a2, .ref a3, .int dr])), (a1, .inl (G.2.1.1, 256, .inl bits)), (a2, .inl (G.2.1.1, 32, .inl (it_X5_moveBits_28 bits ring p0 32))), (a3, .inl (G.2.1.1, 8, .inl slips))] := hD
        replace hl : lv_has ls 9 [(6, .int (nI 32)), (5, .int ((f_J9_floorMod_7cf53 p1 640) % 20)), (4, .int ((f_J9_floorMod_7cf53 p1 640) / 20)), (3, .int (f_J9_floorMod_7cf53 p1 640)), (0, .ref a0), (1, .int p0), (2, .int p1)] := hl
        refine lv_iload hx hb dX5_moveBits_28 (lv_at hl 0 rfl) ?_
        refine lv_bipush (v := 32) hx hb dX5_moveBits_30 (by decide) ?_
        refine lv_icmp_ge (tgt := 63) hx hb dX5_moveBits_32 (by decide) (fun c_2 => ?_) (fun c_2 => ?_)
        · skip
          refine lv_iconst (v := 0) hx hb dX5_moveBits_63 (by decide) ?_
          refine lv_istore (lv' := [(6, .int 0), (5, .int ((f_J9_floorMod_7cf53 p1 640) % 20)), (4, .int ((f_J9_floorMod_7cf53 p1 640) / 20)), (3, .int (f_J9_floorMod_7cf53 p1 640)), (0, .ref a0), (1, .int p0), (2, .int p1)]) hx hb dX5_moveBits_64 hl (by decide) rfl (fun ls hl => ?_)
          have loop_66 : ∀ (fu k : Nat), k + fu = 32 → ∀ (H : Heap) (locs : List Loc), va_P G.1 vwCl [(a0, .inr (7, [.ref a1, .ref a2, .ref a3, .int dr])), (a1, .inl (G.2.1.1, 256, .inl (it_X5_moveBits_66 bits ring p0 p1 k))), (a2, .inl (G.2.1.1, 32, .inl (it_X5_moveBits_28 bits ring p0 32))), (a3, .inl (G.2.1.1, 8, .inl slips))] H → va_D A [(a0, .inr (7, [.ref a1, .ref a2, .ref a3, .int dr])), (a1, .inl (G.2.1.1, 256, .inl (it_X5_moveBits_66 bits ring p0 p1 k))), (a2, .inl (G.2.1.1, 32, .inl (it_X5_moveBits_28 bits ring p0 32))), (a3, .inl (G.2.1.1, 8, .inl slips))] → va_S A s.heap H locs → ∀ ls : Array Slot, lv_has ls 9 [(6, .int (nI k)), (5, .int ((f_J9_floorMod_7cf53 p1 640) % 20)), (4, .int ((f_J9_floorMod_7cf53 p1 640) / 20)), (3, .int (f_J9_floorMod_7cf53 p1 640)), (0, .ref a0), (1, .int p0), (2, .int p1)] → W p l e { frames := 1, cells := 0, slots := 0, locals := 22 } s m args below meth c H locs 0 0 (MQ below (gQ G none [(a0, .inr (7, [.ref a1, .ref a2, .ref a3, .int dr])), (a1, .inl (G.2.1.1, 256, .inl ((f_X5_moveBits bits ring slips p0 p1).1))), (a2, .inl (G.2.1.1, 32, .inl ((f_X5_moveBits bits ring slips p0 p1).2.1))), (a3, .inl (G.2.1.1, 8, .inl ((f_X5_moveBits bits ring slips p0 p1).2.2)))] A) args s 0 0 A) (F0 m 66 ls []) := by
            intro fu
            induction fu with
            | zero =>
              intro k hk H locs hP hD hS ls hl
              have ek : 32 = k := by omega
              subst ek
              replace hP : va_P G.1 vwCl [(a0, .inr (7, [.ref a1, .ref a2, .ref a3, .int dr])), (a1, .inl (G.2.1.1, 256, .inl (it_X5_moveBits_66 bits ring p0 p1 32))), (a2, .inl (G.2.1.1, 32, .inl (it_X5_moveBits_28 bits ring p0 32))), (a3, .inl (G.2.1.1, 8, .inl slips))] H := hP
              replace hD : va_D A [(a0, .inr (7, [.ref a1, .ref a2, .ref a3, .int dr])), (a1, .inl (G.2.1.1, 256, .inl (it_X5_moveBits_66 bits ring p0 p1 32))), (a2, .inl (G.2.1.1, 32, .inl (it_X5_moveBits_28 bits ring p0 32))), (a3, .inl (G.2.1.1, 8, .inl slips))] := hD
              replace hl : lv_has ls 9 [(6, .int (nI 32)), (5, .int ((f_J9_floorMod_7cf53 p1 640) % 20)), (4, .int ((f_J9_floorMod_7cf53 p1 640) / 20)), (3, .int (f_J9_floorMod_7cf53 p1 640)), (0, .ref a0), (1, .int p0), (2, .int p1)] := hl
              refine lv_iload hx hb dX5_moveBits_66 (lv_at hl 0 rfl) ?_
              refine lv_bipush (v := 32) hx hb dX5_moveBits_68 (by decide) ?_
              refine lv_icmp_ge (tgt := 143) hx hb dX5_moveBits_70 (by decide) (fun c_3 => ?_) (fun c_3 => ?_)
              · skip
                refine lv_aload_n hx hb dX5_moveBits_143 rfl (lv_at hl 4 rfl) ?_
                refine va_get (D := G.1) (ci := 7) (v := .ref a3) (C := RX5) (T := TX5) (N := 4) hx hb hts in_X5 hown hK hP 0 rfl rfl 2 (by decide) (hts _ k_fl_X5_18) (fun _ h9 => h9) rfl dX5_moveBits_144 ?_
                refine lv_iload_n hx hb dX5_moveBits_147 rfl (lv_at hl 5 rfl) ?_
                refine lv_bipush (v := 7) hx hb dX5_moveBits_148 (by decide) ?_
                refine lv_iand hx hb dX5_moveBits_150 ?_
                refine lv_dup2_11 hx hb dX5_moveBits_151 rfl rfl ?_
                refine va_iald hx hb hK hP 3 0 rfl rfl (pk_andIn _ 3 (by decide) (by decide)) dX5_moveBits_152 ?_
                refine lv_iload_n hx hb dX5_moveBits_153 rfl (lv_at hl 6 rfl) ?_
                refine gS (As := [.int p1]) (rest := [.int (slips (Int32.toNatClampNeg (p0 &&& 7))), .int (p0 &&& 7), .ref a3]) (wr := [(a0, .inr (7, [.ref a1, .ref a2, .ref a3, .int dr])), (a1, .inl (G.2.1.1, 256, .inl (it_X5_moveBits_66 bits ring p0 p1 32))), (a2, .inl (G.2.1.1, 32, .inl (it_X5_moveBits_28 bits ring p0 32))), (a3, .inl (G.2.1.1, 8, .inl slips))]) (ws' := [(a0, .inr (7, [.ref a1, .ref a2, .ref a3, .int dr])), (a1, .inl (G.2.1.1, 256, .inl (it_X5_moveBits_66 bits ring p0 p1 32))), (a2, .inl (G.2.1.1, 32, .inl (it_X5_moveBits_28 bits ring p0 32))), (a3, .inl (G.2.1.1, 8, .inl slips))]) F (c_J9_abs_0f7a4 l G p1) okS_J9_abs_0f7a4 k_ml_X5_54 rfl rfl ⟨Nat.le_of_ble_eq_true rfl, Nat.le_of_ble_eq_true rfl⟩ hN hK hP hD hS hA [] [0, 1, 2, 3] [0, 1, 2, 3] (by decide) rfl rfl (by decide) (by decide) (by decide) rfl rfl rfl hl.1 (Nat.le_of_ble_eq_true rfl) dX5_moveBits_154 ⟨Nat.le_refl _, Nat.le_refl _⟩ (fun H locs hP hD hS => ?_)
                refine lv_iadd hx hb dX5_moveBits_157 ?_
                refine va_iast hx hb hK hP hD hS 3 0 rfl rfl (pk_andIn _ 3 (by decide) (by decide)) dX5_moveBits_158 (fun H locs hP hD hS => ?_)
                replace hP : va_P G.1 vwCl [(a0, .inr (7, [.ref a1, .ref a2, .ref a3, .int dr])), (a1, .inl (G.2.1.1, 256, .inl (it_X5_moveBits_66 bits ring p0 p1 32))), (a2, .inl (G.2.1.1, 32, .inl (it_X5_moveBits_28 bits ring p0 32))), (a3, .inl (G.2.1.1, 8, .inl (upd slips (Int32.toNatClampNeg (p0 &&& 7)) ((slips (Int32.toNatClampNeg (p0 &&& 7))) + (f_J9_abs_0f7a4 p1)))))] H := hP
                replace hD : va_D A [(a0, .inr (7, [.ref a1, .ref a2, .ref a3, .int dr])), (a1, .inl (G.2.1.1, 256, .inl (it_X5_moveBits_66 bits ring p0 p1 32))), (a2, .inl (G.2.1.1, 32, .inl (it_X5_moveBits_28 bits ring p0 32))), (a3, .inl (G.2.1.1, 8, .inl (upd slips (Int32.toNatClampNeg (p0 &&& 7)) ((slips (Int32.toNatClampNeg (p0 &&& 7))) + (f_J9_abs_0f7a4 p1)))))] := hD
                have ef : (f_X5_moveBits bits ring slips p0 p1) = ((it_X5_moveBits_66 bits ring p0 p1 32), (it_X5_moveBits_28 bits ring p0 32), (upd slips (Int32.toNatClampNeg (p0 &&& 7)) ((slips (Int32.toNatClampNeg (p0 &&& 7))) + (f_J9_abs_0f7a4 p1)))) := (if_neg c_1)
                exact gRetV F hr hlocks hK hP hD hS rfl (by rw [ef]) (Nat.le_of_ble_eq_true rfl) (Nat.le_of_ble_eq_true rfl) dX5_moveBits_159
              · exact absurd (Int32.le_refl _) c_3
            | succ fu ih =>
              intro k hk H locs hP hD hS ls hl
              have hlt_k : k < 32 := by omega
              refine lv_iload hx hb dX5_moveBits_66 (lv_at hl 0 rfl) ?_
              refine lv_bipush (v := 32) hx hb dX5_moveBits_68 (by decide) ?_
              refine lv_icmp_ge (tgt := 143) hx hb dX5_moveBits_70 (by decide) (fun c_4 => ?_) (fun c_4 => ?_)
              · exact absurd c_4 (nI_ge hlt_k (by decide))
              · skip
                refine lv_aload_n hx hb dX5_moveBits_73 rfl (lv_at hl 4 rfl) ?_
                refine va_get (D := G.1) (ci := 7) (v := .ref a2) (C := RX5) (T := TX5) (N := 4) hx hb hts in_X5 hown hK hP 0 rfl rfl 1 (by decide) (hts _ k_fl_X5_15) (fun _ h9 => h9) rfl dX5_moveBits_74 ?_
                refine lv_iload hx hb dX5_moveBits_77 (lv_at hl 0 rfl) ?_
                refine lv_iload hx hb dX5_moveBits_79 (lv_at hl 2 rfl) ?_
                refine lv_isub hx hb dX5_moveBits_81 ?_
                refine gSN (As := [.int ((nI k) - ((f_J9_floorMod_7cf53 p1 640) / 20))]) (rest := [.ref a2]) (wr := [(a0, .inr (7, [.ref a1, .ref a2, .ref a3, .int dr])), (a1, .inl (G.2.1.1, 256, .inl (it_X5_moveBits_66 bits ring p0 p1 k))), (a2, .inl (G.2.1.1, 32, .inl (it_X5_moveBits_28 bits ring p0 32))), (a3, .inl (G.2.1.1, 8, .inl slips))]) (ws' := [(a0, .inr (7, [.ref a1, .ref a2, .ref a3, .int dr])), (a1, .inl (G.2.1.1, 256, .inl (it_X5_moveBits_66 bits ring p0 p1 k))), (a2, .inl (G.2.1.1, 32, .inl (it_X5_moveBits_28 bits ring p0 32))), (a3, .inl (G.2.1.1, 8, .inl slips))]) F (c_X6_cycleOf l G ((nI k) - ((f_J9_floorMod_7cf53 p1 640) / 20))) okS_X6_cycleOf kn_X5_51 rfl rfl ⟨Nat.le_of_ble_eq_true rfl, Nat.le_of_ble_eq_true rfl⟩ hN hK hP hD hS hA [] [0, 1, 2, 3] [0, 1, 2, 3] (by decide) rfl rfl (by decide) (by decide) (by decide) rfl rfl rfl hl.1 (Nat.le_of_ble_eq_true rfl) dX5_moveBits_82 ⟨Nat.le_refl _, Nat.le_refl _⟩ (fun H locs hP hD hS => ?_)
                refine va_iald hx hb hK hP 2 0 rfl rfl (pk_andIn _ 5 (by decide) (by decide)) dX5_moveBits_85 ?_
                refine lv_iload hx hb dX5_moveBits_86 (lv_at hl 1 rfl) ?_
                refine lv_ishl hx hb dX5_moveBits_88 ?_
                refine lv_istore (lv' := [(7, .int ((((it_X5_moveBits_28 bits ring p0 32) (Int32.toNatClampNeg (f_X6_cycleOf ((nI k) - ((f_J9_floorMod_7cf53 p1 640) / 20))))) <<< (((f_J9_floorMod_7cf53 p1 640) % 20) &&& 31)) : Int32)), (6, .int (nI k)), (5, .int ((f_J9_floorMod_7cf53 p1 640) % 20)), (4, .int ((f_J9_floorMod_7cf53 p1 640) / 20)), (3, .int (f_J9_floorMod_7cf53 p1 640)), (0, .ref a0), (1, .int p0), (2, .int p1)]) hx hb dX5_moveBits_89 hl (by decide) rfl (fun ls hl => ?_)
                refine lv_aload_n hx hb dX5_moveBits_91 rfl (lv_at hl 5 rfl) ?_
                refine va_get (D := G.1) (ci := 7) (v := .ref a2) (C := RX5) (T := TX5) (N := 4) hx hb hts in_X5 hown hK hP 0 rfl rfl 1 (by decide) (hts _ k_fl_X5_15) (fun _ h9 => h9) rfl dX5_moveBits_92 ?_
                refine lv_iload hx hb dX5_moveBits_95 (lv_at hl 1 rfl) ?_
                refine lv_iload hx hb dX5_moveBits_97 (lv_at hl 3 rfl) ?_
                refine lv_isub hx hb dX5_moveBits_99 ?_
                refine lv_iconst (v := 1) hx hb dX5_moveBits_100 (by decide) ?_
                refine lv_isub hx hb dX5_moveBits_101 ?_
                refine gSN (As := [.int (((nI k) - ((f_J9_floorMod_7cf53 p1 640) / 20)) - 1)]) (rest := [.ref a2]) (wr := [(a0, .inr (7, [.ref a1, .ref a2, .ref a3, .int dr])), (a1, .inl (G.2.1.1, 256, .inl (it_X5_moveBits_66 bits ring p0 p1 k))), (a2, .inl (G.2.1.1, 32, .inl (it_X5_moveBits_28 bits ring p0 32))), (a3, .inl (G.2.1.1, 8, .inl slips))]) (ws' := [(a0, .inr (7, [.ref a1, .ref a2, .ref a3, .int dr])), (a1, .inl (G.2.1.1, 256, .inl (it_X5_moveBits_66 bits ring p0 p1 k))), (a2, .inl (G.2.1.1, 32, .inl (it_X5_moveBits_28 bits ring p0 32))), (a3, .inl (G.2.1.1, 8, .inl slips))]) F (c_X6_cycleOf l G (((nI k) - ((f_J9_floorMod_7cf53 p1 640) / 20)) - 1)) okS_X6_cycleOf kn_X5_51 rfl rfl ⟨Nat.le_of_ble_eq_true rfl, Nat.le_of_ble_eq_true rfl⟩ hN hK hP hD hS hA [] [0, 1, 2, 3] [0, 1, 2, 3] (by decide) rfl rfl (by decide) (by decide) (by decide) rfl rfl rfl hl.1 (Nat.le_of_ble_eq_true rfl) dX5_moveBits_102 ⟨Nat.le_refl _, Nat.le_refl _⟩ (fun H locs hP hD hS => ?_)
                refine va_iald hx hb hK hP 2 0 rfl rfl (pk_andIn _ 5 (by decide) (by decide)) dX5_moveBits_105 ?_
                refine lv_bipush (v := 20) hx hb dX5_moveBits_106 (by decide) ?_
                refine lv_iload hx hb dX5_moveBits_108 (lv_at hl 2 rfl) ?_
                refine lv_isub hx hb dX5_moveBits_110 ?_
                refine lv_ishr hx hb dX5_moveBits_111 ?_
                refine lv_istore (lv' := [(8, .int ((((it_X5_moveBits_28 bits ring p0 32) (Int32.toNatClampNeg (f_X6_cycleOf (((nI k) - ((f_J9_floorMod_7cf53 p1 640) / 20)) - 1)))) >>> ((20 - ((f_J9_floorMod_7cf53 p1 640) % 20)) &&& 31)) : Int32)), (7, .int ((((it_X5_moveBits_28 bits ring p0 32) (Int32.toNatClampNeg (f_X6_cycleOf ((nI k) - ((f_J9_floorMod_7cf53 p1 640) / 20))))) <<< (((f_J9_floorMod_7cf53 p1 640) % 20) &&& 31)) : Int32)), (6, .int (nI k)), (5, .int ((f_J9_floorMod_7cf53 p1 640) % 20)), (4, .int ((f_J9_floorMod_7cf53 p1 640) / 20)), (3, .int (f_J9_floorMod_7cf53 p1 640)), (0, .ref a0), (1, .int p0), (2, .int p1)]) hx hb dX5_moveBits_112 hl (by decide) rfl (fun ls hl => ?_)
                refine lv_aload_n hx hb dX5_moveBits_114 rfl (lv_at hl 6 rfl) ?_
                refine va_get (D := G.1) (ci := 7) (v := .ref a1) (C := RX5) (T := TX5) (N := 4) hx hb hts in_X5 hown hK hP 0 rfl rfl 0 (by decide) (hts _ k_fl_X5_9) (fun _ h9 => h9) rfl dX5_moveBits_115 ?_
                refine lv_iload_n hx hb dX5_moveBits_118 rfl (lv_at hl 7 rfl) ?_
                refine lv_iload hx hb dX5_moveBits_119 (lv_at hl 2 rfl) ?_
                refine gSN (As := [.int p0, .int (nI k)]) (rest := [.ref a1]) (wr := [(a0, .inr (7, [.ref a1, .ref a2, .ref a3, .int dr])), (a1, .inl (G.2.1.1, 256, .inl (it_X5_moveBits_66 bits ring p0 p1 k))), (a2, .inl (G.2.1.1, 32, .inl (it_X5_moveBits_28 bits ring p0 32))), (a3, .inl (G.2.1.1, 8, .inl slips))]) (ws' := [(a0, .inr (7, [.ref a1, .ref a2, .ref a3, .int dr])), (a1, .inl (G.2.1.1, 256, .inl (it_X5_moveBits_66 bits ring p0 p1 k))), (a2, .inl (G.2.1.1, 32, .inl (it_X5_moveBits_28 bits ring p0 32))), (a3, .inl (G.2.1.1, 8, .inl slips))]) F (c_X6_locationOf l G p0 (nI k)) okS_X6_locationOf kn_X5_26 rfl rfl ⟨Nat.le_of_ble_eq_true rfl, Nat.le_of_ble_eq_true rfl⟩ hN hK hP hD hS hA [] [0, 1, 2, 3] [0, 1, 2, 3] (by decide) rfl rfl (by decide) (by decide) (by decide) rfl rfl rfl hl.1 (Nat.le_of_ble_eq_true rfl) dX5_moveBits_121 ⟨Nat.le_refl _, Nat.le_refl _⟩ (fun H locs hP hD hS => ?_)
                refine lv_sipush (v := 255) hx hb dX5_moveBits_124 (by decide) ?_
                refine lv_iand hx hb dX5_moveBits_127 ?_
                refine lv_iload hx hb dX5_moveBits_128 (lv_at hl 1 rfl) ?_
                refine lv_iload hx hb dX5_moveBits_130 (lv_at hl 0 rfl) ?_
                refine lv_ior hx hb dX5_moveBits_132 ?_
                refine lv_ldc (v := 1048575) hx hb hown (hts _ k_co_X5_25) dX5_moveBits_133 ?_
                refine lv_iand hx hb dX5_moveBits_135 ?_
                refine va_iast hx hb hK hP hD hS 1 0 rfl rfl (pk_andIn _ 8 (by decide) (by decide)) dX5_moveBits_136 (fun H locs hP hD hS => ?_)
                replace hP : va_P G.1 vwCl [(a0, .inr (7, [.ref a1, .ref a2, .ref a3, .int dr])), (a1, .inl (G.2.1.1, 256, .inl (upd (it_X5_moveBits_66 bits ring p0 p1 k) (Int32.toNatClampNeg ((f_X6_locationOf p0 (nI k)) &&& 255)) ((((((it_X5_moveBits_28 bits ring p0 32) (Int32.toNatClampNeg (f_X6_cycleOf ((nI k) - ((f_J9_floorMod_7cf53 p1 640) / 20))))) <<< (((f_J9_floorMod_7cf53 p1 640) % 20) &&& 31)) : Int32) ||| ((((it_X5_moveBits_28 bits ring p0 32) (Int32.toNatClampNeg (f_X6_cycleOf (((nI k) - ((f_J9_floorMod_7cf53 p1 640) / 20)) - 1)))) >>> ((20 - ((f_J9_floorMod_7cf53 p1 640) % 20)) &&& 31)) : Int32)) &&& 1048575)))), (a2, .inl (G.2.1.1, 32, .inl (it_X5_moveBits_28 bits ring p0 32))), (a3, .inl (G.2.1.1, 8, .inl slips))] H := hP
                replace hD : va_D A [(a0, .inr (7, [.ref a1, .ref a2, .ref a3, .int dr])), (a1, .inl (G.2.1.1, 256, .inl (upd (it_X5_moveBits_66 bits ring p0 p1 k) (Int32.toNatClampNeg ((f_X6_locationOf p0 (nI k)) &&& 255)) ((((((it_X5_moveBits_28 bits ring p0 32) (Int32.toNatClampNeg (f_X6_cycleOf ((nI k) - ((f_J9_floorMod_7cf53 p1 640) / 20))))) <<< (((f_J9_floorMod_7cf53 p1 640) % 20) &&& 31)) : Int32) ||| ((((it_X5_moveBits_28 bits ring p0 32) (Int32.toNatClampNeg (f_X6_cycleOf (((nI k) - ((f_J9_floorMod_7cf53 p1 640) / 20)) - 1)))) >>> ((20 - ((f_J9_floorMod_7cf53 p1 640) % 20)) &&& 31)) : Int32)) &&& 1048575)))), (a2, .inl (G.2.1.1, 32, .inl (it_X5_moveBits_28 bits ring p0 32))), (a3, .inl (G.2.1.1, 8, .inl slips))] := hD
                refine lv_iinc (v := (nI (k + 1))) (lv' := [(6, .int (nI (k + 1))), (8, .int ((((it_X5_moveBits_28 bits ring p0 32) (Int32.toNatClampNeg (f_X6_cycleOf (((nI k) - ((f_J9_floorMod_7cf53 p1 640) / 20)) - 1)))) >>> ((20 - ((f_J9_floorMod_7cf53 p1 640) % 20)) &&& 31)) : Int32)), (7, .int ((((it_X5_moveBits_28 bits ring p0 32) (Int32.toNatClampNeg (f_X6_cycleOf ((nI k) - ((f_J9_floorMod_7cf53 p1 640) / 20))))) <<< (((f_J9_floorMod_7cf53 p1 640) % 20) &&& 31)) : Int32)), (5, .int ((f_J9_floorMod_7cf53 p1 640) % 20)), (4, .int ((f_J9_floorMod_7cf53 p1 640) / 20)), (3, .int (f_J9_floorMod_7cf53 p1 640)), (0, .ref a0), (1, .int p0), (2, .int p1)]) hx hb dX5_moveBits_137 hl (k := 2) rfl (nI_1 k) (by decide) rfl (fun ls hl => ?_)
                refine lv_goto (tgt := 66) hx hb dX5_moveBits_140 (by decide) ?_
                have ek : (it_X5_moveBits_66 bits ring p0 p1 (k + 1)) = (upd (it_X5_moveBits_66 bits ring p0 p1 k) (Int32.toNatClampNeg ((f_X6_locationOf p0 (nI k)) &&& 255)) ((((((it_X5_moveBits_28 bits ring p0 32) (Int32.toNatClampNeg (f_X6_cycleOf ((nI k) - ((f_J9_floorMod_7cf53 p1 640) / 20))))) <<< (((f_J9_floorMod_7cf53 p1 640) % 20) &&& 31)) : Int32) ||| ((((it_X5_moveBits_28 bits ring p0 32) (Int32.toNatClampNeg (f_X6_cycleOf (((nI k) - ((f_J9_floorMod_7cf53 p1 640) / 20)) - 1)))) >>> ((20 - ((f_J9_floorMod_7cf53 p1 640) % 20)) &&& 31)) : Int32)) &&& 1048575)) := rfl
                exact ih (k + 1) (by omega) _ _ (by rw [ek]; exact hP) (by rw [ek]; exact hD) hS ls (lv_sub hl [0, 3, 4, 5, 6, 7, 8] rfl)
          exact loop_66 32 0 (by omega) _ _ hP hD hS ls (lv_sub hl [0, 1, 2, 3, 4, 5, 6] rfl)
        · exact absurd (Int32.le_refl _) c_2
      | succ fu ih =>
        intro k hk H locs hP hD hS ls hl
        have hlt_k : k < 32 := by omega
        refine lv_iload hx hb dX5_moveBits_28 (lv_at hl 0 rfl) ?_
        refine lv_bipush (v := 32) hx hb dX5_moveBits_30 (by decide) ?_
        refine lv_icmp_ge (tgt := 63) hx hb dX5_moveBits_32 (by decide) (fun c_5 => ?_) (fun c_5 => ?_)
        · exact absurd c_5 (nI_ge hlt_k (by decide))
        · skip
          refine lv_aload_n hx hb dX5_moveBits_35 rfl (lv_at hl 4 rfl) ?_
          refine va_get (D := G.1) (ci := 7) (v := .ref a2) (C := RX5) (T := TX5) (N := 4) hx hb hts in_X5 hown hK hP 0 rfl rfl 1 (by decide) (hts _ k_fl_X5_15) (fun _ h9 => h9) rfl dX5_moveBits_36 ?_
          refine lv_iload hx hb dX5_moveBits_39 (lv_at hl 0 rfl) ?_
          refine lv_aload_n hx hb dX5_moveBits_41 rfl (lv_at hl 4 rfl) ?_
          refine va_get (D := G.1) (ci := 7) (v := .ref a1) (C := RX5) (T := TX5) (N := 4) hx hb hts in_X5 hown hK hP 0 rfl rfl 0 (by decide) (hts _ k_fl_X5_9) (fun _ h9 => h9) rfl dX5_moveBits_42 ?_
          refine lv_iload_n hx hb dX5_moveBits_45 rfl (lv_at hl 5 rfl) ?_
          refine lv_iload hx hb dX5_moveBits_46 (lv_at hl 0 rfl) ?_
          refine gSN (As := [.int p0, .int (nI k)]) (rest := [.ref a1, .int (nI k), .ref a2]) (wr := [(a0, .inr (7, [.ref a1, .ref a2, .ref a3, .int dr])), (a1, .inl (G.2.1.1, 256, .inl bits)), (a2, .inl (G.2.1.1, 32, .inl (it_X5_moveBits_28 bits ring p0 k))), (a3, .inl (G.2.1.1, 8, .inl slips))]) (ws' := [(a0, .inr (7, [.ref a1, .ref a2, .ref a3, .int dr])), (a1, .inl (G.2.1.1, 256, .inl bits)), (a2, .inl (G.2.1.1, 32, .inl (it_X5_moveBits_28 bits ring p0 k))), (a3, .inl (G.2.1.1, 8, .inl slips))]) F (c_X6_locationOf l G p0 (nI k)) okS_X6_locationOf kn_X5_26 rfl rfl ⟨Nat.le_of_ble_eq_true rfl, Nat.le_of_ble_eq_true rfl⟩ hN hK hP hD hS hA [] [0, 1, 2, 3] [0, 1, 2, 3] (by decide) rfl rfl (by decide) (by decide) (by decide) rfl rfl rfl hl.1 (Nat.le_of_ble_eq_true rfl) dX5_moveBits_48 ⟨Nat.le_refl _, Nat.le_refl _⟩ (fun H locs hP hD hS => ?_)
          refine lv_sipush (v := 255) hx hb dX5_moveBits_51 (by decide) ?_
          refine lv_iand hx hb dX5_moveBits_54 ?_
          refine va_iald hx hb hK hP 1 0 rfl rfl (pk_andIn _ 8 (by decide) (by decide)) dX5_moveBits_55 ?_
          refine gIast (k := k) hx hb hK hP hD hS 2 0 rfl rfl (nI_clamp (by omega)) (vp_in_nI (Nat.lt_of_lt_of_le hlt_k (Nat.le_of_ble_eq_true rfl)) (by decide)) dX5_moveBits_56 (fun H locs hP hD hS => ?_)
          replace hP : va_P G.1 vwCl [(a0, .inr (7, [.ref a1, .ref a2, .ref a3, .int dr])), (a1, .inl (G.2.1.1, 256, .inl bits)), (a2, .inl (G.2.1.1, 32, .inl (upd (it_X5_moveBits_28 bits ring p0 k) k (bits (Int32.toNatClampNeg ((f_X6_locationOf p0 (nI k)) &&& 255)))))), (a3, .inl (G.2.1.1, 8, .inl slips))] H := hP
          replace hD : va_D A [(a0, .inr (7, [.ref a1, .ref a2, .ref a3, .int dr])), (a1, .inl (G.2.1.1, 256, .inl bits)), (a2, .inl (G.2.1.1, 32, .inl (upd (it_X5_moveBits_28 bits ring p0 k) k (bits (Int32.toNatClampNeg ((f_X6_locationOf p0 (nI k)) &&& 255)))))), (a3, .inl (G.2.1.1, 8, .inl slips))] := hD
          refine lv_iinc (v := (nI (k + 1))) (lv' := [(6, .int (nI (k + 1))), (5, .int ((f_J9_floorMod_7cf53 p1 640) % 20)), (4, .int ((f_J9_floorMod_7cf53 p1 640) / 20)), (3, .int (f_J9_floorMod_7cf53 p1 640)), (0, .ref a0), (1, .int p0), (2, .int p1)]) hx hb dX5_moveBits_57 hl (k := 0) rfl (nI_1 k) (by decide) rfl (fun ls hl => ?_)
          refine lv_goto (tgt := 28) hx hb dX5_moveBits_60 (by decide) ?_
          have ek : (it_X5_moveBits_28 bits ring p0 (k + 1)) = (upd (it_X5_moveBits_28 bits ring p0 k) k (bits (Int32.toNatClampNeg ((f_X6_locationOf p0 (nI k)) &&& 255)))) := rfl
          exact ih (k + 1) (by omega) _ _ (by rw [ek]; exact hP) (by rw [ek]; exact hD) hS ls (lv_sub hl [0, 1, 2, 3, 4, 5, 6] rfl)
    exact loop_28 32 0 (by omega) _ _ hP hD hS ls (lv_sub hl [0, 1, 2, 3, 4, 5, 6] rfl)
  · skip
    have ef : (f_X5_moveBits bits ring slips p0 p1) = (bits, ring, slips) := (if_pos c_1)
    exact gRetV F hr hlocks hK hP hD hS rfl (by rw [ef]) (Nat.le_of_ble_eq_true rfl) (Nat.le_of_ble_eq_true rfl) dX5_moveBits_4
theorem okV_X5_moveBits : gOkV yX5_moveBits cX5_moveBits 9 none 2 := ⟨⟨k_im_X5_moveBits, k_se_X5_moveBits, k_in_X5, k_cd_X5_moveBits⟩, by decide, by decide, by decide +kernel⟩
def st_X1_drift_2 (ot : Int32) (k : Nat) (v0_ : Nat → Int32) : (Nat → Int32) :=
  (f_X1_putTemperature v0_ (nI k) ((f_X1_temperatureOf v0_ (nI k)) + ((ot - (f_X1_temperatureOf v0_ (nI k))) / 8)))
def it_X1_drift_2 (ot : Int32) (temps : Nat → Int32) : Nat → (Nat → Int32)
  | 0 => temps
  | i + 1 => st_X1_drift_2 ot i (it_X1_drift_2 ot temps i)
def f_X1_drift (pt : Int32) (ot : Int32) (temps : Nat → Int32) : Int32 × (Nat → Int32) :=
  ((pt + ((ot - pt) / 8)), (it_X1_drift_2 ot temps 8))
set_option maxRecDepth 100000 in
set_option maxHeartbeats 4000000 in
theorem c_X1_drift (l : Launch) (G : gG) (a0 : Nat) (a1 : Nat) (pt : Int32) (ot : Int32) (fp : Int32) (on : Int32) (temps : Nat → Int32) : gM l G yX1_drift cX1_drift 3 none { frames := 1, cells := 0, slots := 0, locals := 22 } [.ref a0] [(a0, .inr (4, [.ref a1, .int pt, .int ot, .int fp, .int on])), (a1, .inl (G.2.1.1, 8, .inl temps))] none [(a0, .inr (4, [.ref a1, .int ((f_X1_drift pt ot temps).1), .int ot, .int fp, .int on])), (a1, .inl (G.2.1.1, 8, .inl ((f_X1_drift pt ot temps).2)))] 0 0 := by
  refine gBegin (by decide +kernel) (Nat.le_of_ble_eq_true rfl) (fun p e s m args below meth c A F hr hlocks hname hN hK hP hD hA hS ls hl => ?_)
  obtain ⟨hx, hb, hml, hown, hts⟩ := id F
  replace hP : va_P G.1 vwCl [(a0, .inr (4, [.ref a1, .int pt, .int ot, .int fp, .int on])), (a1, .inl (G.2.1.1, 8, .inl temps))] s.heap := hP
  replace hl : lv_has ls 3 [(0, .ref a0)] := hl
  refine lv_iconst (v := 0) hx hb dX1_drift_0 (by decide) ?_
  refine lv_istore_n (lv' := [(1, .int 0), (0, .ref a0)]) hx hb dX1_drift_1 rfl hl (by decide) rfl (fun ls hl => ?_)
  have loop_2 : ∀ (fu k : Nat), k + fu = 8 → ∀ (H : Heap) (locs : List Loc), va_P G.1 vwCl [(a0, .inr (4, [.ref a1, .int pt, .int ot, .int fp, .int on])), (a1, .inl (G.2.1.1, 8, .inl (it_X1_drift_2 ot temps k)))] H → va_D A [(a0, .inr (4, [.ref a1, .int pt, .int ot, .int fp, .int on])), (a1, .inl (G.2.1.1, 8, .inl (it_X1_drift_2 ot temps k)))] → va_S A s.heap H locs → ∀ ls : Array Slot, lv_has ls 3 [(1, .int (nI k)), (0, .ref a0)] → W p l e { frames := 1, cells := 0, slots := 0, locals := 22 } s m args below meth c H locs 0 0 (MQ below (gQ G none [(a0, .inr (4, [.ref a1, .int ((f_X1_drift pt ot temps).1), .int ot, .int fp, .int on])), (a1, .inl (G.2.1.1, 8, .inl ((f_X1_drift pt ot temps).2)))] A) args s 0 0 A) (F0 m 2 ls []) := by
    intro fu
    induction fu with
    | zero =>
      intro k hk H locs hP hD hS ls hl
      have ek : 8 = k := by omega
      subst ek
      replace hP : va_P G.1 vwCl [(a0, .inr (4, [.ref a1, .int pt, .int ot, .int fp, .int on])), (a1, .inl (G.2.1.1, 8, .inl (it_X1_drift_2 ot temps 8)))] H := hP
      replace hD : va_D A [(a0, .inr (4, [.ref a1, .int pt, .int ot, .int fp, .int on])), (a1, .inl (G.2.1.1, 8, .inl (it_X1_drift_2 ot temps 8)))] := hD
      replace hl : lv_has ls 3 [(1, .int (nI 8)), (0, .ref a0)] := hl
      refine lv_iload_n hx hb dX1_drift_2 rfl (lv_at hl 0 rfl) ?_
      refine lv_bipush (v := 8) hx hb dX1_drift_3 (by decide) ?_
      refine lv_icmp_ge (tgt := 36) hx hb dX1_drift_5 (by decide) (fun c_1 => ?_) (fun c_1 => ?_)
      · skip
        refine lv_aload_n hx hb dX1_drift_36 rfl (lv_at hl 1 rfl) ?_
        refine lv_dup hx hb dX1_drift_37 rfl ?_
        refine va_get (D := G.1) (ci := 4) (v := .int pt) (C := RX1) (T := TX1) (N := 5) hx hb hts in_X1 hown hK hP 0 rfl rfl 1 (by decide) (hts _ k_fl_X1_15) (fun _ h9 => h9) rfl dX1_drift_38 ?_
        refine lv_aload_n hx hb dX1_drift_41 rfl (lv_at hl 1 rfl) ?_
        refine va_get (D := G.1) (ci := 4) (v := .int ot) (C := RX1) (T := TX1) (N := 5) hx hb hts in_X1 hown hK hP 0 rfl rfl 2 (by decide) (hts _ k_fl_X1_19) (fun _ h9 => h9) rfl dX1_drift_42 ?_
        refine lv_aload_n hx hb dX1_drift_45 rfl (lv_at hl 1 rfl) ?_
        refine va_get (D := G.1) (ci := 4) (v := .int pt) (C := RX1) (T := TX1) (N := 5) hx hb hts in_X1 hown hK hP 0 rfl rfl 1 (by decide) (hts _ k_fl_X1_15) (fun _ h9 => h9) rfl dX1_drift_46 ?_
        refine lv_isub hx hb dX1_drift_49 ?_
        refine lv_bipush (v := 8) hx hb dX1_drift_50 (by decide) ?_
        refine lv_idiv hx hb dX1_drift_52 (by decide) ?_
        refine lv_iadd hx hb dX1_drift_53 ?_
        refine va_put (D := G.1) (ci := 4) (v := .int (pt + ((ot - pt) / 8))) (ty := .int) (C := RX1) (T := TX1) (N := 5) hx hb hts in_X1 tyX1 tyX1_ok nmX1 hown hK hP hD hS 0 rfl rfl 1 (by decide) (hts _ k_fl_X1_15) (fun _ h9 => h9) rfl (by decide +kernel) rfl rfl (Nat.le_of_ble_eq_true rfl) dX1_drift_54 (fun H locs hP hD hS => ?_)
        replace hP : va_P G.1 vwCl [(a0, .inr (4, [.ref a1, .int (pt + ((ot - pt) / 8)), .int ot, .int fp, .int on])), (a1, .inl (G.2.1.1, 8, .inl (it_X1_drift_2 ot temps 8)))] H := hP
        replace hD : va_D A [(a0, .inr (4, [.ref a1, .int (pt + ((ot - pt) / 8)), .int ot, .int fp, .int on])), (a1, .inl (G.2.1.1, 8, .inl (it_X1_drift_2 ot temps 8)))] := hD
        exact gRetV F hr hlocks hK hP hD hS rfl rfl (Nat.le_of_ble_eq_true rfl) (Nat.le_of_ble_eq_true rfl) dX1_drift_57
      · exact absurd (Int32.le_refl _) c_1
    | succ fu ih =>
      intro k hk H locs hP hD hS ls hl
      have hlt_k : k < 8 := by omega
      refine lv_iload_n hx hb dX1_drift_2 rfl (lv_at hl 0 rfl) ?_
      refine lv_bipush (v := 8) hx hb dX1_drift_3 (by decide) ?_
      refine lv_icmp_ge (tgt := 36) hx hb dX1_drift_5 (by decide) (fun c_2 => ?_) (fun c_2 => ?_)
      · exact absurd c_2 (nI_ge hlt_k (by decide))
      · skip
        refine lv_aload_n hx hb dX1_drift_8 rfl (lv_at hl 1 rfl) ?_
        refine lv_iload_n hx hb dX1_drift_9 rfl (lv_at hl 0 rfl) ?_
        refine gV (As := [.int (nI k)]) (rest := []) (wr := []) (ws' := [(a0, .inr (4, [.ref a1, .int pt, .int ot, .int fp, .int on])), (a1, .inl (G.2.1.1, 8, .inl (it_X1_drift_2 ot temps k)))]) F (c_X1_temperatureOf l G a0 a1 pt ot fp on (it_X1_drift_2 ot temps k) (nI k)) okV_X1_temperatureOf k_ml_X1_26 rfl rfl ⟨Nat.le_of_ble_eq_true rfl, Nat.le_of_ble_eq_true rfl⟩ hN hK hP hD hS hA [0, 1] [] [0, 1] (by decide) rfl rfl (by decide) (by decide) (by decide) rfl (q0 := 0) rfl rfl rfl rfl hl.1 (Nat.le_of_ble_eq_true rfl) dX1_drift_10 ⟨Nat.le_refl _, Nat.le_refl _⟩ (fun H locs hP hD hS => ?_)
        refine lv_istore_n (lv' := [(2, .int (f_X1_temperatureOf (it_X1_drift_2 ot temps k) (nI k))), (1, .int (nI k)), (0, .ref a0)]) hx hb dX1_drift_13 rfl hl (by decide) rfl (fun ls hl => ?_)
        refine lv_aload_n hx hb dX1_drift_14 rfl (lv_at hl 2 rfl) ?_
        refine lv_iload_n hx hb dX1_drift_15 rfl (lv_at hl 1 rfl) ?_
        refine lv_iload_n hx hb dX1_drift_16 rfl (lv_at hl 0 rfl) ?_
        refine lv_aload_n hx hb dX1_drift_17 rfl (lv_at hl 2 rfl) ?_
        refine va_get (D := G.1) (ci := 4) (v := .int ot) (C := RX1) (T := TX1) (N := 5) hx hb hts in_X1 hown hK hP 0 rfl rfl 2 (by decide) (hts _ k_fl_X1_19) (fun _ h9 => h9) rfl dX1_drift_18 ?_
        refine lv_iload_n hx hb dX1_drift_21 rfl (lv_at hl 0 rfl) ?_
        refine lv_isub hx hb dX1_drift_22 ?_
        refine lv_bipush (v := 8) hx hb dX1_drift_23 (by decide) ?_
        refine lv_idiv hx hb dX1_drift_25 (by decide) ?_
        refine lv_iadd hx hb dX1_drift_26 ?_
        refine gV (As := [.int (nI k), .int ((f_X1_temperatureOf (it_X1_drift_2 ot temps k) (nI k)) + ((ot - (f_X1_temperatureOf (it_X1_drift_2 ot temps k) (nI k))) / 8))]) (rest := []) (wr := []) (ws' := [(a0, .inr (4, [.ref a1, .int pt, .int ot, .int fp, .int on])), (a1, .inl (G.2.1.1, 8, .inl (f_X1_putTemperature (it_X1_drift_2 ot temps k) (nI k) ((f_X1_temperatureOf (it_X1_drift_2 ot temps k) (nI k)) + ((ot - (f_X1_temperatureOf (it_X1_drift_2 ot temps k) (nI k))) / 8)))))]) F (c_X1_putTemperature l G a0 a1 pt ot fp on (it_X1_drift_2 ot temps k) (nI k) ((f_X1_temperatureOf (it_X1_drift_2 ot temps k) (nI k)) + ((ot - (f_X1_temperatureOf (it_X1_drift_2 ot temps k) (nI k))) / 8))) okV_X1_putTemperature k_ml_X1_30 rfl rfl ⟨Nat.le_of_ble_eq_true rfl, Nat.le_of_ble_eq_true rfl⟩ hN hK hP hD hS hA [0, 1] [] [0, 1] (by decide) rfl rfl (by decide) (by decide) (by decide) rfl (q0 := 0) rfl rfl rfl rfl hl.1 (Nat.le_of_ble_eq_true rfl) dX1_drift_27 ⟨Nat.le_refl _, Nat.le_refl _⟩ (fun H locs hP hD hS => ?_)
        refine lv_iinc (v := (nI (k + 1))) (lv' := [(1, .int (nI (k + 1))), (2, .int (f_X1_temperatureOf (it_X1_drift_2 ot temps k) (nI k))), (0, .ref a0)]) hx hb dX1_drift_30 hl (k := 1) rfl (nI_1 k) (by decide) rfl (fun ls hl => ?_)
        refine lv_goto (tgt := 2) hx hb dX1_drift_33 (by decide) ?_
        have ek : (it_X1_drift_2 ot temps (k + 1)) = (f_X1_putTemperature (it_X1_drift_2 ot temps k) (nI k) ((f_X1_temperatureOf (it_X1_drift_2 ot temps k) (nI k)) + ((ot - (f_X1_temperatureOf (it_X1_drift_2 ot temps k) (nI k))) / 8))) := rfl
        exact ih (k + 1) (by omega) _ _ (by rw [ek]; exact hP) (by rw [ek]; exact hD) hS ls (lv_sub hl [0, 2] rfl)
  exact loop_2 8 0 (by omega) _ _ hP hD hS ls (lv_sub hl [0, 1] rfl)
theorem okV_X1_drift : gOkV yX1_drift cX1_drift 3 none 0 := ⟨⟨k_im_X1_drift, k_se_X1_drift, k_in_X1, k_cd_X1_drift⟩, by decide, by decide, by decide +kernel⟩
theorem gMinSelf (x : Int32) : f_J9_min_7cf53 x x = x := by unfold f_J9_min_7cf53; split <;> rfl
def f_X6_copyRow (n : Nat) (f : Nat → Int32) (g : Nat → Int32) : (Nat → Int32) :=
  (va_cpy f g 0 0 n)
set_option maxRecDepth 100000 in
set_option maxHeartbeats 4000000 in
theorem c_X6_copyRow (l : Launch) (G : gG) (a0 : Nat) (a1 : Nat) (n : Nat) (f : Nat → Int32) (g : Nat → Int32) (hn : n < 2 ^ 31) : gM l G yX6_copyRow cX6_copyRow 2 none { frames := 1, cells := 0, slots := 0, locals := 60 } [.ref a0, .ref a1] [(a0, .inl (G.2.1.1, n, .inl f)), (a1, .inl (G.2.1.1, n, .inl g))] none [(a0, .inl (G.2.1.1, n, .inl f)), (a1, .inl (G.2.1.1, n, .inl (f_X6_copyRow n f g)))] 0 0 := by
  refine gBegin (by decide +kernel) (Nat.le_of_ble_eq_true rfl) (fun p e s m args below meth c A F hr hlocks hname hN hK hP hD hA hS ls hl => ?_)
  obtain ⟨hx, hb, hml, hown, hts⟩ := id F
  replace hP : va_P G.1 vwCl [(a0, .inl (G.2.1.1, n, .inl f)), (a1, .inl (G.2.1.1, n, .inl g))] s.heap := hP
  replace hl : lv_has ls 2 [(0, .ref a0), (1, .ref a1)] := hl
  refine lv_aload_n hx hb dX6_copyRow_0 rfl (lv_at hl 0 rfl) ?_
  refine lv_iconst (v := 0) hx hb dX6_copyRow_1 (by decide) ?_
  refine lv_aload_n hx hb dX6_copyRow_2 rfl (lv_at hl 1 rfl) ?_
  refine lv_iconst (v := 0) hx hb dX6_copyRow_3 (by decide) ?_
  refine lv_aload_n hx hb dX6_copyRow_4 rfl (lv_at hl 0 rfl) ?_
  refine va_alen (v := (nI n)) hx hb hK hP 0 0 rfl rfl rfl dX6_copyRow_5 ?_
  refine lv_aload_n hx hb dX6_copyRow_6 rfl (lv_at hl 1 rfl) ?_
  refine va_alen (v := (nI n)) hx hb hK hP 1 0 rfl rfl rfl dX6_copyRow_7 ?_
  refine gS (As := [.int (nI n), .int (nI n)]) (rest := [.int 0, .ref a1, .int 0, .ref a0]) (wr := [(a0, .inl (G.2.1.1, n, .inl f)), (a1, .inl (G.2.1.1, n, .inl g))]) (ws' := [(a0, .inl (G.2.1.1, n, .inl f)), (a1, .inl (G.2.1.1, n, .inl g))]) F (c_J9_min_7cf53 l G (nI n) (nI n)) okS_J9_min_7cf53 k_ml_X6_351 rfl rfl ⟨Nat.le_of_ble_eq_true rfl, Nat.le_of_ble_eq_true rfl⟩ hN hK hP hD hS hA [] [0, 1] [0, 1] (by decide) rfl rfl (by decide) (by decide) (by decide) rfl rfl rfl hl.1 (Nat.le_of_ble_eq_true rfl) dX6_copyRow_8 ⟨Nat.le_refl _, Nat.le_refl _⟩ (fun H locs hP hD hS => ?_)
  refine W.eq (congrArg (fun z => F0 m _ ls (.int z :: _)) (gMinSelf _ : ((f_J9_min_7cf53 (nI n) (nI n)) : Int32) = (nI n))) ?_
  refine va_copyi (ty := .int) hx hb (hml.trans hl.1.symm) hown (hts _ k_ml_X6_354) (hts _ k_na_ac) (hts _ k_st_ac) (hts _ k_in_J10) hK hP hD hS 0 1 0 0 rfl rfl rfl rfl rfl (by decide) (by decide) (nI_pos hn) (by rw [nI_clamp hn]; exact Nat.le_of_eq (Nat.zero_add n)) (by rw [nI_clamp hn]; exact Nat.le_of_eq (Nat.zero_add n)) (fun _ _ => rfl) (Nat.le_of_ble_eq_true rfl) (by decide +kernel) dX6_copyRow_11 (fun H locs hP hD hS => ?_)
  rw [nI_clamp hn] at hP hD
  replace hP : va_P G.1 vwCl [(a0, .inl (G.2.1.1, n, .inl f)), (a1, .inl (G.2.1.1, n, .inl (va_cpy f g 0 0 n)))] H := hP
  replace hD : va_D A [(a0, .inl (G.2.1.1, n, .inl f)), (a1, .inl (G.2.1.1, n, .inl (va_cpy f g 0 0 n)))] := hD
  exact gRetV F hr hlocks hK hP hD hS rfl rfl (Nat.le_of_ble_eq_true rfl) (Nat.le_of_ble_eq_true rfl) dX6_copyRow_14
theorem okS_X6_copyRow : gOkS yX6_copyRow cX6_copyRow 2 none 2 := ⟨⟨k_st_X6_copyRow, k_in_X6, k_cd_X6_copyRow⟩, by decide, by decide, by decide +kernel⟩
