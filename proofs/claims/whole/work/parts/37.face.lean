theorem xa_X6_47 : ∀ w ∈ (vx_atS RX6 47 "java/lang/IllegalStateException" ["java/lang/RuntimeException", "java/lang/Exception"]).filter goodWord, w ∈ tables_1 := by decide +kernel
theorem xb_X6_47 : ∀ w ∈ (vx_atS RX6 47 "java/lang/IllegalStateException" ["java/lang/RuntimeException", "java/lang/Exception"]).filter (fun w => !goodWord w), w ∈ gBad := by decide +kernel
theorem xc_X6_47 : ∀ w ∈ Cond.classLink RX6 43 "java/lang/IllegalStateException" :: Cond.initialized "java/lang/IllegalStateException" :: vx_atS RX6 47 "java/lang/IllegalStateException" ["java/lang/RuntimeException", "java/lang/Exception"], vx_ot w = true := by decide +kernel
theorem xa_X6_58 : ∀ w ∈ (vx_atS RX6 58 "java/lang/IndexOutOfBoundsException" ["java/lang/RuntimeException", "java/lang/Exception"]).filter goodWord, w ∈ tables_1 := by decide +kernel
theorem xb_X6_58 : ∀ w ∈ (vx_atS RX6 58 "java/lang/IndexOutOfBoundsException" ["java/lang/RuntimeException", "java/lang/Exception"]).filter (fun w => !goodWord w), w ∈ gBad := by decide +kernel
theorem xc_X6_58 : ∀ w ∈ Cond.classLink RX6 54 "java/lang/IndexOutOfBoundsException" :: Cond.initialized "java/lang/IndexOutOfBoundsException" :: vx_atS RX6 58 "java/lang/IndexOutOfBoundsException" ["java/lang/RuntimeException", "java/lang/Exception"], vx_ot w = true := by decide +kernel
theorem xa_X6_67 : ∀ w ∈ (vx_atS RX6 67 "java/lang/IllegalArgumentException" ["java/lang/RuntimeException", "java/lang/Exception"]).filter goodWord, w ∈ tables_1 := by decide +kernel
theorem xb_X6_67 : ∀ w ∈ (vx_atS RX6 67 "java/lang/IllegalArgumentException" ["java/lang/RuntimeException", "java/lang/Exception"]).filter (fun w => !goodWord w), w ∈ gBad := by decide +kernel
theorem xc_X6_67 : ∀ w ∈ Cond.classLink RX6 63 "java/lang/IllegalArgumentException" :: Cond.initialized "java/lang/IllegalArgumentException" :: vx_atS RX6 67 "java/lang/IllegalArgumentException" ["java/lang/RuntimeException", "java/lang/Exception"], vx_ot w = true := by decide +kernel
def th_X6_requireTank (p0 : Int32) : Option String :=
  if p0 < 0 then
    (some "java/lang/IndexOutOfBoundsException")
  else
    if p0 < 8 then
      none
    else
      (some "java/lang/IndexOutOfBoundsException")
set_option maxRecDepth 100000 in
set_option maxHeartbeats 4000000 in
theorem c_X6_requireTank (l : Launch) (hfl : l.stackTraces = false) (G : gG) (p0 : Int32) : gX l G yX6_requireTank cX6_requireTank 1 none { frames := 6, cells := 1, slots := 6, locals := 90 } [.int p0] [] (th_X6_requireTank p0) none [] 1 6 := by
  refine gxBegin (by decide +kernel) (Nat.le_of_ble_eq_true rfl) (fun p e s m args below meth c A F hr hlocks htab hN hSt hK hP hD hA hS ls hl => ?_)
  obtain ⟨hx, hb, hml, hown, hts⟩ := id F
  replace hP : va_P G.1 vwCl [] s.heap := hP
  replace hl : lv_has ls 1 [(0, .int p0)] := hl
  refine lv_iload_n hx hb dX6_requireTank_0 rfl (lv_at hl 0 rfl) ?_
  refine lv_if_lt (tgt := 10) hx hb dX6_requireTank_1 (by decide) (fun c_1 => ?_) (fun c_1 => ?_)
  · skip
    exact gxThrowW (text := "no tank") (names := ["java/lang/RuntimeException", "java/lang/Exception"]) F hfl hN hSt hK hP hD hS hlocks htab hl.1 (by decide +kernel) (by decide +kernel) k_cl_X6_54 k_in_java_lang_IndexOutOfBoundsException (by decide +kernel) xa_X6_58 xb_X6_58 xc_X6_58 dX6_requireTank_10 dX6_requireTank_13 dX6_requireTank_14 dX6_requireTank_17 dX6_requireTank_20 (if_pos c_1) (by decide) (Nat.le_of_ble_eq_true rfl) (Nat.le_of_ble_eq_true rfl) (Nat.le_of_ble_eq_true rfl) (Nat.le_of_ble_eq_true rfl) (Nat.le_of_ble_eq_true rfl)
  · skip
    refine lv_iload_n hx hb dX6_requireTank_4 rfl (lv_at hl 0 rfl) ?_
    refine lv_bipush (v := 8) hx hb dX6_requireTank_5 (by decide) ?_
    refine lv_icmp_lt (tgt := 21) hx hb dX6_requireTank_7 (by decide) (fun c_2 => ?_) (fun c_2 => ?_)
    · skip
      refine gxOf (((if_neg c_1).trans (if_pos c_2))) ?_
      exact gRetV F hr hlocks hK hP hD hS rfl rfl (Nat.le_of_ble_eq_true rfl) (Nat.le_of_ble_eq_true rfl) dX6_requireTank_21
    · skip
      exact gxThrowW (text := "no tank") (names := ["java/lang/RuntimeException", "java/lang/Exception"]) F hfl hN hSt hK hP hD hS hlocks htab hl.1 (by decide +kernel) (by decide +kernel) k_cl_X6_54 k_in_java_lang_IndexOutOfBoundsException (by decide +kernel) xa_X6_58 xb_X6_58 xc_X6_58 dX6_requireTank_10 dX6_requireTank_13 dX6_requireTank_14 dX6_requireTank_17 dX6_requireTank_20 ((if_neg c_1).trans (if_neg c_2)) (by decide) (Nat.le_of_ble_eq_true rfl) (Nat.le_of_ble_eq_true rfl) (Nat.le_of_ble_eq_true rfl) (Nat.le_of_ble_eq_true rfl) (Nat.le_of_ble_eq_true rfl)
theorem okS_X6_requireTank : gOkS yX6_requireTank cX6_requireTank 1 none 1 := ⟨⟨k_st_X6_requireTank, k_in_X6, k_cd_X6_requireTank⟩, by decide, by decide, by decide +kernel⟩
def th_X6_requireLocation (p0 : Int32) (p1 : Int32) : Option String :=
  if p0 < 0 then
    (some "java/lang/IndexOutOfBoundsException")
  else
    if 8 ≤ p0 then
      (some "java/lang/IndexOutOfBoundsException")
    else
      if p1 < 0 then
        (some "java/lang/IndexOutOfBoundsException")
      else
        if p1 < 32 then
          none
        else
          (some "java/lang/IndexOutOfBoundsException")
set_option maxRecDepth 100000 in
set_option maxHeartbeats 4000000 in
theorem c_X6_requireLocation (l : Launch) (hfl : l.stackTraces = false) (G : gG) (p0 : Int32) (p1 : Int32) : gX l G yX6_requireLocation cX6_requireLocation 2 none { frames := 6, cells := 1, slots := 6, locals := 90 } [.int p0, .int p1] [] (th_X6_requireLocation p0 p1) none [] 1 6 := by
  refine gxBegin (by decide +kernel) (Nat.le_of_ble_eq_true rfl) (fun p e s m args below meth c A F hr hlocks htab hN hSt hK hP hD hA hS ls hl => ?_)
  obtain ⟨hx, hb, hml, hown, hts⟩ := id F
  replace hP : va_P G.1 vwCl [] s.heap := hP
  replace hl : lv_has ls 2 [(0, .int p0), (1, .int p1)] := hl
  refine lv_iload_n hx hb dX6_requireLocation_0 rfl (lv_at hl 0 rfl) ?_
  refine lv_if_lt (tgt := 20) hx hb dX6_requireLocation_1 (by decide) (fun c_1 => ?_) (fun c_1 => ?_)
  · skip
    exact gxThrowW (text := "no location") (names := ["java/lang/RuntimeException", "java/lang/Exception"]) F hfl hN hSt hK hP hD hS hlocks htab hl.1 (by decide +kernel) (by decide +kernel) k_cl_X6_54 k_in_java_lang_IndexOutOfBoundsException (by decide +kernel) xa_X6_58 xb_X6_58 xc_X6_58 dX6_requireLocation_20 dX6_requireLocation_23 dX6_requireLocation_24 dX6_requireLocation_27 dX6_requireLocation_30 (if_pos c_1) (by decide) (Nat.le_of_ble_eq_true rfl) (Nat.le_of_ble_eq_true rfl) (Nat.le_of_ble_eq_true rfl) (Nat.le_of_ble_eq_true rfl) (Nat.le_of_ble_eq_true rfl)
  · skip
    refine lv_iload_n hx hb dX6_requireLocation_4 rfl (lv_at hl 0 rfl) ?_
    refine lv_bipush (v := 8) hx hb dX6_requireLocation_5 (by decide) ?_
    refine lv_icmp_ge (tgt := 20) hx hb dX6_requireLocation_7 (by decide) (fun c_2 => ?_) (fun c_2 => ?_)
    · skip
      exact gxThrowW (text := "no location") (names := ["java/lang/RuntimeException", "java/lang/Exception"]) F hfl hN hSt hK hP hD hS hlocks htab hl.1 (by decide +kernel) (by decide +kernel) k_cl_X6_54 k_in_java_lang_IndexOutOfBoundsException (by decide +kernel) xa_X6_58 xb_X6_58 xc_X6_58 dX6_requireLocation_20 dX6_requireLocation_23 dX6_requireLocation_24 dX6_requireLocation_27 dX6_requireLocation_30 ((if_neg c_1).trans (if_pos c_2)) (by decide) (Nat.le_of_ble_eq_true rfl) (Nat.le_of_ble_eq_true rfl) (Nat.le_of_ble_eq_true rfl) (Nat.le_of_ble_eq_true rfl) (Nat.le_of_ble_eq_true rfl)
    · skip
      refine lv_iload_n hx hb dX6_requireLocation_10 rfl (lv_at hl 1 rfl) ?_
      refine lv_if_lt (tgt := 20) hx hb dX6_requireLocation_11 (by decide) (fun c_3 => ?_) (fun c_3 => ?_)
      · skip
        exact gxThrowW (text := "no location") (names := ["java/lang/RuntimeException", "java/lang/Exception"]) F hfl hN hSt hK hP hD hS hlocks htab hl.1 (by decide +kernel) (by decide +kernel) k_cl_X6_54 k_in_java_lang_IndexOutOfBoundsException (by decide +kernel) xa_X6_58 xb_X6_58 xc_X6_58 dX6_requireLocation_20 dX6_requireLocation_23 dX6_requireLocation_24 dX6_requireLocation_27 dX6_requireLocation_30 ((if_neg c_1).trans ((if_neg c_2).trans (if_pos c_3))) (by decide) (Nat.le_of_ble_eq_true rfl) (Nat.le_of_ble_eq_true rfl) (Nat.le_of_ble_eq_true rfl) (Nat.le_of_ble_eq_true rfl) (Nat.le_of_ble_eq_true rfl)
      · skip
        refine lv_iload_n hx hb dX6_requireLocation_14 rfl (lv_at hl 1 rfl) ?_
        refine lv_bipush (v := 32) hx hb dX6_requireLocation_15 (by decide) ?_
        refine lv_icmp_lt (tgt := 31) hx hb dX6_requireLocation_17 (by decide) (fun c_4 => ?_) (fun c_4 => ?_)
        · skip
          refine gxOf (((if_neg c_1).trans ((if_neg c_2).trans ((if_neg c_3).trans (if_pos c_4))))) ?_
          exact gRetV F hr hlocks hK hP hD hS rfl rfl (Nat.le_of_ble_eq_true rfl) (Nat.le_of_ble_eq_true rfl) dX6_requireLocation_31
        · skip
          exact gxThrowW (text := "no location") (names := ["java/lang/RuntimeException", "java/lang/Exception"]) F hfl hN hSt hK hP hD hS hlocks htab hl.1 (by decide +kernel) (by decide +kernel) k_cl_X6_54 k_in_java_lang_IndexOutOfBoundsException (by decide +kernel) xa_X6_58 xb_X6_58 xc_X6_58 dX6_requireLocation_20 dX6_requireLocation_23 dX6_requireLocation_24 dX6_requireLocation_27 dX6_requireLocation_30 ((if_neg c_1).trans ((if_neg c_2).trans ((if_neg c_3).trans (if_neg c_4)))) (by decide) (Nat.le_of_ble_eq_true rfl) (Nat.le_of_ble_eq_true rfl) (Nat.le_of_ble_eq_true rfl) (Nat.le_of_ble_eq_true rfl) (Nat.le_of_ble_eq_true rfl)
theorem okS_X6_requireLocation : gOkS yX6_requireLocation cX6_requireLocation 2 none 2 := ⟨⟨k_st_X6_requireLocation, k_in_X6, k_cd_X6_requireLocation⟩, by decide, by decide, by decide +kernel⟩
def th_X6_requireWord (p0 : Int32) : Option String :=
  if p0 < (-524288) then
    (some "java/lang/IllegalArgumentException")
  else
    if p0 ≤ 524287 then
      none
    else
      (some "java/lang/IllegalArgumentException")
set_option maxRecDepth 100000 in
set_option maxHeartbeats 4000000 in
theorem c_X6_requireWord (l : Launch) (hfl : l.stackTraces = false) (G : gG) (p0 : Int32) : gX l G yX6_requireWord cX6_requireWord 1 none { frames := 6, cells := 1, slots := 6, locals := 90 } [.int p0] [] (th_X6_requireWord p0) none [] 1 6 := by
  refine gxBegin (by decide +kernel) (Nat.le_of_ble_eq_true rfl) (fun p e s m args below meth c A F hr hlocks htab hN hSt hK hP hD hA hS ls hl => ?_)
  obtain ⟨hx, hb, hml, hown, hts⟩ := id F
  replace hP : va_P G.1 vwCl [] s.heap := hP
  replace hl : lv_has ls 1 [(0, .int p0)] := hl
  refine lv_iload_n hx hb dX6_requireWord_0 rfl (lv_at hl 0 rfl) ?_
  refine lv_ldcw (v := (-524288)) hx hb hown (hts _ k_co_X6_330) dX6_requireWord_1 ?_
  refine lv_icmp_lt (tgt := 14) hx hb dX6_requireWord_4 (by decide) (fun c_1 => ?_) (fun c_1 => ?_)
  · skip
    exact gxThrowW (text := "no word") (names := ["java/lang/RuntimeException", "java/lang/Exception"]) F hfl hN hSt hK hP hD hS hlocks htab hl.1 (by decide +kernel) (by decide +kernel) k_cl_X6_63 k_in_java_lang_IllegalArgumentException (by decide +kernel) xa_X6_67 xb_X6_67 xc_X6_67 dX6_requireWord_14 dX6_requireWord_17 dX6_requireWord_18 dX6_requireWord_21 dX6_requireWord_24 (if_pos c_1) (by decide) (Nat.le_of_ble_eq_true rfl) (Nat.le_of_ble_eq_true rfl) (Nat.le_of_ble_eq_true rfl) (Nat.le_of_ble_eq_true rfl) (Nat.le_of_ble_eq_true rfl)
  · skip
    refine lv_iload_n hx hb dX6_requireWord_7 rfl (lv_at hl 0 rfl) ?_
    refine lv_ldcw (v := 524287) hx hb hown (hts _ k_co_X6_331) dX6_requireWord_8 ?_
    refine lv_icmp_le (tgt := 25) hx hb dX6_requireWord_11 (by decide) (fun c_2 => ?_) (fun c_2 => ?_)
    · skip
      refine gxOf (((if_neg c_1).trans (if_pos c_2))) ?_
      exact gRetV F hr hlocks hK hP hD hS rfl rfl (Nat.le_of_ble_eq_true rfl) (Nat.le_of_ble_eq_true rfl) dX6_requireWord_25
    · skip
      exact gxThrowW (text := "no word") (names := ["java/lang/RuntimeException", "java/lang/Exception"]) F hfl hN hSt hK hP hD hS hlocks htab hl.1 (by decide +kernel) (by decide +kernel) k_cl_X6_63 k_in_java_lang_IllegalArgumentException (by decide +kernel) xa_X6_67 xb_X6_67 xc_X6_67 dX6_requireWord_14 dX6_requireWord_17 dX6_requireWord_18 dX6_requireWord_21 dX6_requireWord_24 ((if_neg c_1).trans (if_neg c_2)) (by decide) (Nat.le_of_ble_eq_true rfl) (Nat.le_of_ble_eq_true rfl) (Nat.le_of_ble_eq_true rfl) (Nat.le_of_ble_eq_true rfl) (Nat.le_of_ble_eq_true rfl)
theorem okS_X6_requireWord : gOkS yX6_requireWord cX6_requireWord 1 none 1 := ⟨⟨k_st_X6_requireWord, k_in_X6, k_cd_X6_requireWord⟩, by decide, by decide, by decide +kernel⟩
def th_X6_requireTemperature (p0 : Int32) : Option String :=
  if p0 < 0 then
    (some "java/lang/IllegalArgumentException")
  else
    if p0 ≤ 1000 then
      none
    else
      (some "java/lang/IllegalArgumentException")
set_option maxRecDepth 100000 in
set_option maxHeartbeats 4000000 in
theorem c_X6_requireTemperature (l : Launch) (hfl : l.stackTraces = false) (G : gG) (p0 : Int32) : gX l G yX6_requireTemperature cX6_requireTemperature 1 none { frames := 6, cells := 1, slots := 6, locals := 90 } [.int p0] [] (th_X6_requireTemperature p0) none [] 1 6 := by
  refine gxBegin (by decide +kernel) (Nat.le_of_ble_eq_true rfl) (fun p e s m args below meth c A F hr hlocks htab hN hSt hK hP hD hA hS ls hl => ?_)
  obtain ⟨hx, hb, hml, hown, hts⟩ := id F
  replace hP : va_P G.1 vwCl [] s.heap := hP
  replace hl : lv_has ls 1 [(0, .int p0)] := hl
  refine lv_iload_n hx hb dX6_requireTemperature_0 rfl (lv_at hl 0 rfl) ?_
  refine lv_if_lt (tgt := 11) hx hb dX6_requireTemperature_1 (by decide) (fun c_1 => ?_) (fun c_1 => ?_)
  · skip
    exact gxThrowW (text := "no temperature") (names := ["java/lang/RuntimeException", "java/lang/Exception"]) F hfl hN hSt hK hP hD hS hlocks htab hl.1 (by decide +kernel) (by decide +kernel) k_cl_X6_63 k_in_java_lang_IllegalArgumentException (by decide +kernel) xa_X6_67 xb_X6_67 xc_X6_67 dX6_requireTemperature_11 dX6_requireTemperature_14 dX6_requireTemperature_15 dX6_requireTemperature_18 dX6_requireTemperature_21 (if_pos c_1) (by decide) (Nat.le_of_ble_eq_true rfl) (Nat.le_of_ble_eq_true rfl) (Nat.le_of_ble_eq_true rfl) (Nat.le_of_ble_eq_true rfl) (Nat.le_of_ble_eq_true rfl)
  · skip
    refine lv_iload_n hx hb dX6_requireTemperature_4 rfl (lv_at hl 0 rfl) ?_
    refine lv_sipush (v := 1000) hx hb dX6_requireTemperature_5 (by decide) ?_
    refine lv_icmp_le (tgt := 22) hx hb dX6_requireTemperature_8 (by decide) (fun c_2 => ?_) (fun c_2 => ?_)
    · skip
      refine gxOf (((if_neg c_1).trans (if_pos c_2))) ?_
      exact gRetV F hr hlocks hK hP hD hS rfl rfl (Nat.le_of_ble_eq_true rfl) (Nat.le_of_ble_eq_true rfl) dX6_requireTemperature_22
    · skip
      exact gxThrowW (text := "no temperature") (names := ["java/lang/RuntimeException", "java/lang/Exception"]) F hfl hN hSt hK hP hD hS hlocks htab hl.1 (by decide +kernel) (by decide +kernel) k_cl_X6_63 k_in_java_lang_IllegalArgumentException (by decide +kernel) xa_X6_67 xb_X6_67 xc_X6_67 dX6_requireTemperature_11 dX6_requireTemperature_14 dX6_requireTemperature_15 dX6_requireTemperature_18 dX6_requireTemperature_21 ((if_neg c_1).trans (if_neg c_2)) (by decide) (Nat.le_of_ble_eq_true rfl) (Nat.le_of_ble_eq_true rfl) (Nat.le_of_ble_eq_true rfl) (Nat.le_of_ble_eq_true rfl) (Nat.le_of_ble_eq_true rfl)
theorem okS_X6_requireTemperature : gOkS yX6_requireTemperature cX6_requireTemperature 1 none 1 := ⟨⟨k_st_X6_requireTemperature, k_in_X6, k_cd_X6_requireTemperature⟩, by decide, by decide, by decide +kernel⟩
def th_X6_requireCount (p0 : Int32) (p1 : Int32) : Option String :=
  if p0 < 1 then
    (some "java/lang/IllegalArgumentException")
  else
    if p0 ≤ p1 then
      none
    else
      (some "java/lang/IllegalArgumentException")
set_option maxRecDepth 100000 in
set_option maxHeartbeats 4000000 in
theorem c_X6_requireCount (l : Launch) (hfl : l.stackTraces = false) (G : gG) (p0 : Int32) (p1 : Int32) : gX l G yX6_requireCount cX6_requireCount 2 none { frames := 6, cells := 1, slots := 6, locals := 90 } [.int p0, .int p1] [] (th_X6_requireCount p0 p1) none [] 1 6 := by
  refine gxBegin (by decide +kernel) (Nat.le_of_ble_eq_true rfl) (fun p e s m args below meth c A F hr hlocks htab hN hSt hK hP hD hA hS ls hl => ?_)
  obtain ⟨hx, hb, hml, hown, hts⟩ := id F
  replace hP : va_P G.1 vwCl [] s.heap := hP
  replace hl : lv_has ls 2 [(0, .int p0), (1, .int p1)] := hl
  refine lv_iload_n hx hb dX6_requireCount_0 rfl (lv_at hl 0 rfl) ?_
  refine lv_iconst (v := 1) hx hb dX6_requireCount_1 (by decide) ?_
  refine lv_icmp_lt (tgt := 10) hx hb dX6_requireCount_2 (by decide) (fun c_1 => ?_) (fun c_1 => ?_)
  · skip
    exact gxThrowW (text := "the count is out of range") (names := ["java/lang/RuntimeException", "java/lang/Exception"]) F hfl hN hSt hK hP hD hS hlocks htab hl.1 (by decide +kernel) (by decide +kernel) k_cl_X6_63 k_in_java_lang_IllegalArgumentException (by decide +kernel) xa_X6_67 xb_X6_67 xc_X6_67 dX6_requireCount_10 dX6_requireCount_13 dX6_requireCount_14 dX6_requireCount_17 dX6_requireCount_20 (if_pos c_1) (by decide) (Nat.le_of_ble_eq_true rfl) (Nat.le_of_ble_eq_true rfl) (Nat.le_of_ble_eq_true rfl) (Nat.le_of_ble_eq_true rfl) (Nat.le_of_ble_eq_true rfl)
  · skip
    refine lv_iload_n hx hb dX6_requireCount_5 rfl (lv_at hl 0 rfl) ?_
    refine lv_iload_n hx hb dX6_requireCount_6 rfl (lv_at hl 1 rfl) ?_
    refine lv_icmp_le (tgt := 21) hx hb dX6_requireCount_7 (by decide) (fun c_2 => ?_) (fun c_2 => ?_)
    · skip
      refine gxOf (((if_neg c_1).trans (if_pos c_2))) ?_
      exact gRetV F hr hlocks hK hP hD hS rfl rfl (Nat.le_of_ble_eq_true rfl) (Nat.le_of_ble_eq_true rfl) dX6_requireCount_21
    · skip
      exact gxThrowW (text := "the count is out of range") (names := ["java/lang/RuntimeException", "java/lang/Exception"]) F hfl hN hSt hK hP hD hS hlocks htab hl.1 (by decide +kernel) (by decide +kernel) k_cl_X6_63 k_in_java_lang_IllegalArgumentException (by decide +kernel) xa_X6_67 xb_X6_67 xc_X6_67 dX6_requireCount_10 dX6_requireCount_13 dX6_requireCount_14 dX6_requireCount_17 dX6_requireCount_20 ((if_neg c_1).trans (if_neg c_2)) (by decide) (Nat.le_of_ble_eq_true rfl) (Nat.le_of_ble_eq_true rfl) (Nat.le_of_ble_eq_true rfl) (Nat.le_of_ble_eq_true rfl) (Nat.le_of_ble_eq_true rfl)
theorem okS_X6_requireCount : gOkS yX6_requireCount cX6_requireCount 2 none 2 := ⟨⟨k_st_X6_requireCount, k_in_X6, k_cd_X6_requireCount⟩, by decide, by decide, by decide +kernel⟩
def th_X6_requireSlot (p0 : Int32) : Option String :=
  if p0 < 0 then
    (some "java/lang/IndexOutOfBoundsException")
  else
    if p0 ≤ 1 then
      none
    else
      (some "java/lang/IndexOutOfBoundsException")
set_option maxRecDepth 100000 in
set_option maxHeartbeats 4000000 in
theorem c_X6_requireSlot (l : Launch) (hfl : l.stackTraces = false) (G : gG) (p0 : Int32) : gX l G yX6_requireSlot cX6_requireSlot 1 none { frames := 6, cells := 1, slots := 6, locals := 90 } [.int p0] [] (th_X6_requireSlot p0) none [] 1 6 := by
  refine gxBegin (by decide +kernel) (Nat.le_of_ble_eq_true rfl) (fun p e s m args below meth c A F hr hlocks htab hN hSt hK hP hD hA hS ls hl => ?_)
  obtain ⟨hx, hb, hml, hown, hts⟩ := id F
  replace hP : va_P G.1 vwCl [] s.heap := hP
  replace hl : lv_has ls 1 [(0, .int p0)] := hl
  refine lv_iload_n hx hb dX6_requireSlot_0 rfl (lv_at hl 0 rfl) ?_
  refine lv_if_lt (tgt := 9) hx hb dX6_requireSlot_1 (by decide) (fun c_1 => ?_) (fun c_1 => ?_)
  · skip
    exact gxThrowW (text := "no slot") (names := ["java/lang/RuntimeException", "java/lang/Exception"]) F hfl hN hSt hK hP hD hS hlocks htab hl.1 (by decide +kernel) (by decide +kernel) k_cl_X6_54 k_in_java_lang_IndexOutOfBoundsException (by decide +kernel) xa_X6_58 xb_X6_58 xc_X6_58 dX6_requireSlot_9 dX6_requireSlot_12 dX6_requireSlot_13 dX6_requireSlot_16 dX6_requireSlot_19 (if_pos c_1) (by decide) (Nat.le_of_ble_eq_true rfl) (Nat.le_of_ble_eq_true rfl) (Nat.le_of_ble_eq_true rfl) (Nat.le_of_ble_eq_true rfl) (Nat.le_of_ble_eq_true rfl)
  · skip
    refine lv_iload_n hx hb dX6_requireSlot_4 rfl (lv_at hl 0 rfl) ?_
    refine lv_iconst (v := 1) hx hb dX6_requireSlot_5 (by decide) ?_
    refine lv_icmp_le (tgt := 20) hx hb dX6_requireSlot_6 (by decide) (fun c_2 => ?_) (fun c_2 => ?_)
    · skip
      refine gxOf (((if_neg c_1).trans (if_pos c_2))) ?_
      exact gRetV F hr hlocks hK hP hD hS rfl rfl (Nat.le_of_ble_eq_true rfl) (Nat.le_of_ble_eq_true rfl) dX6_requireSlot_20
    · skip
      exact gxThrowW (text := "no slot") (names := ["java/lang/RuntimeException", "java/lang/Exception"]) F hfl hN hSt hK hP hD hS hlocks htab hl.1 (by decide +kernel) (by decide +kernel) k_cl_X6_54 k_in_java_lang_IndexOutOfBoundsException (by decide +kernel) xa_X6_58 xb_X6_58 xc_X6_58 dX6_requireSlot_9 dX6_requireSlot_12 dX6_requireSlot_13 dX6_requireSlot_16 dX6_requireSlot_19 ((if_neg c_1).trans (if_neg c_2)) (by decide) (Nat.le_of_ble_eq_true rfl) (Nat.le_of_ble_eq_true rfl) (Nat.le_of_ble_eq_true rfl) (Nat.le_of_ble_eq_true rfl) (Nat.le_of_ble_eq_true rfl)
theorem okS_X6_requireSlot : gOkS yX6_requireSlot cX6_requireSlot 1 none 1 := ⟨⟨k_st_X6_requireSlot, k_in_X6, k_cd_X6_requireSlot⟩, by decide, by decide, by decide +kernel⟩
