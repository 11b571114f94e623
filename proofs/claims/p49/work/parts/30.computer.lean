def f_X2_makeReadyAt (p0 : Int32) : Int32 × Int32 :=
  (0, p0)
set_option maxRecDepth 100000 in
set_option maxHeartbeats 4000000 in
theorem c_X2_makeReadyAt (l : Launch) (G : gG) (c0 : Nat) (s0 : Nat) (k0 : Nat) (i0 : Nat) (o0 : Nat) (x0 : Nat) (et : Int32) (wt : Int32) (tm : Int32) (sta : Int32) (he : Int32) (ac : Int32) (ov : Int32) (p0 : Int32) : gM l G yX2_makeReadyAt cX2_makeReadyAt 2 none { frames := 0, cells := 0, slots := 0, locals := 0 } [.ref c0, .int p0] [(c0, .inr (5, [.ref s0, .ref k0, .ref i0, .ref o0, .ref x0, .int et, .int wt, .int tm, .int sta, .int he, .int ac, .int ov]))] none [(c0, .inr (5, [.ref s0, .ref k0, .ref i0, .ref o0, .ref x0, .int et, .int wt, .int tm, .int ((f_X2_makeReadyAt p0).1), .int ((f_X2_makeReadyAt p0).2), .int ac, .int ov]))] 0 0 := by
  refine gBegin (by decide +kernel) (Nat.le_of_ble_eq_true rfl) (fun p e s m args below meth c A F hr hlocks hname hN hK hP hD hA hS ls hl => ?_)
  obtain ⟨hx, hb, hml, hown, hts⟩ := id F
  replace hP : va_P G.1 vwCl [(c0, .inr (5, [.ref s0, .ref k0, .ref i0, .ref o0, .ref x0, .int et, .int wt, .int tm, .int sta, .int he, .int ac, .int ov]))] s.heap := hP
  replace hl : lv_has ls 2 [(0, .ref c0), (1, .int p0)] := hl
  refine lv_aload_n hx hb dX2_makeReadyAt_0 rfl (lv_at hl 0 rfl) ?_
  refine lv_iload_n hx hb dX2_makeReadyAt_1 rfl (lv_at hl 1 rfl) ?_
  refine va_put (D := G.1) (ci := 5) (v := .int p0) (ty := .int) (C := RX2) (T := TX2) (N := 12) hx hb hts in_X2 tyX2 tyX2_ok nmX2 hown hK hP hD hS 0 rfl rfl 9 (by decide) (hts _ k_fl_X2_43) (fun _ h9 => h9) rfl (by decide +kernel) rfl rfl (Nat.le_of_ble_eq_true rfl) dX2_makeReadyAt_2 (fun H locs hP hD hS => ?_)
  replace hP : va_P G.1 vwCl [(c0, .inr (5, [.ref s0, .ref k0, .ref i0, .ref o0, .ref x0, .int et, .int wt, .int tm, .int sta, .int p0, .int ac, .int ov]))] H := hP
  replace hD : va_D A [(c0, .inr (5, [.ref s0, .ref k0, .ref i0, .ref o0, .ref x0, .int et, .int wt, .int tm, .int sta, .int p0, .int ac, .int ov]))] := hD
  refine lv_aload_n hx hb dX2_makeReadyAt_5 rfl (lv_at hl 0 rfl) ?_
  refine lv_iconst (v := 0) hx hb dX2_makeReadyAt_6 (by decide) ?_
  refine va_put (D := G.1) (ci := 5) (v := .int 0) (ty := .int) (C := RX2) (T := TX2) (N := 12) hx hb hts in_X2 tyX2 tyX2_ok nmX2 hown hK hP hD hS 0 rfl rfl 8 (by decide) (hts _ k_fl_X2_39) (fun _ h9 => h9) rfl (by decide +kernel) rfl rfl (Nat.le_of_ble_eq_true rfl) dX2_makeReadyAt_7 (fun H locs hP hD hS => ?_)
  replace hP : va_P G.1 vwCl [(c0, .inr (5, [.ref s0, .ref k0, .ref i0, .ref o0, .ref x0, .int et, .int wt, .int tm, .int 0, .int p0, .int ac, .int ov]))] H := hP
  replace hD : va_D A [(c0, .inr (5, [.ref s0, .ref k0, .ref i0, .ref o0, .ref x0, .int et, .int wt, .int tm, .int 0, .int p0, .int ac, .int ov]))] := hD
  exact gRetV F hr hlocks hK hP hD hS rfl rfl (Nat.le_of_ble_eq_true rfl) (Nat.le_of_ble_eq_true rfl) dX2_makeReadyAt_10
theorem okV_X2_makeReadyAt : gOkV yX2_makeReadyAt cX2_makeReadyAt 2 none 1 := ⟨⟨k_im_X2_makeReadyAt, k_se_X2_makeReadyAt, k_in_X2, k_cd_X2_makeReadyAt⟩, by decide, by decide, by decide +kernel⟩
def f_X2_executedCountAt (cnt : Nat → Int32) (p0 : Int32) : Int32 :=
  (cnt (Int32.toNatClampNeg (p0 &&& 255)))
set_option maxRecDepth 100000 in
set_option maxHeartbeats 4000000 in
theorem c_X2_executedCountAt (l : Launch) (G : gG) (c0 : Nat) (s0 : Nat) (k0 : Nat) (i0 : Nat) (o0 : Nat) (x0 : Nat) (et : Int32) (wt : Int32) (tm : Int32) (sta : Int32) (he : Int32) (ac : Int32) (ov : Int32) (cnt : Nat → Int32) (p0 : Int32) : gM l G yX2_executedCountAt cX2_executedCountAt 2 (some .int) { frames := 0, cells := 0, slots := 0, locals := 0 } [.ref c0, .int p0] [(c0, .inr (5, [.ref s0, .ref k0, .ref i0, .ref o0, .ref x0, .int et, .int wt, .int tm, .int sta, .int he, .int ac, .int ov])), (x0, .inl (G.2.1.1, 256, .inl cnt))] (some (.int (f_X2_executedCountAt cnt p0))) [(c0, .inr (5, [.ref s0, .ref k0, .ref i0, .ref o0, .ref x0, .int et, .int wt, .int tm, .int sta, .int he, .int ac, .int ov])), (x0, .inl (G.2.1.1, 256, .inl cnt))] 0 0 := by
  refine gBegin (by decide +kernel) (Nat.le_of_ble_eq_true rfl) (fun p e s m args below meth c A F hr hlocks hname hN hK hP hD hA hS ls hl => ?_)
  obtain ⟨hx, hb, hml, hown, hts⟩ := id F
  replace hP : va_P G.1 vwCl [(c0, .inr (5, [.ref s0, .ref k0, .ref i0, .ref o0, .ref x0, .int et, .int wt, .int tm, .int sta, .int he, .int ac, .int ov])), (x0, .inl (G.2.1.1, 256, .inl cnt))] s.heap := hP
  replace hl : lv_has ls 2 [(0, .ref c0), (1, .int p0)] := hl
  refine lv_aload_n hx hb dX2_executedCountAt_0 rfl (lv_at hl 0 rfl) ?_
  refine va_get (D := G.1) (ci := 5) (v := .ref x0) (C := RX2) (T := TX2) (N := 12) hx hb hts in_X2 hown hK hP 0 rfl rfl 4 (by decide) (hts _ k_fl_X2_35) (fun _ h9 => h9) rfl dX2_executedCountAt_1 ?_
  refine lv_iload_n hx hb dX2_executedCountAt_4 rfl (lv_at hl 1 rfl) ?_
  refine lv_sipush (v := 255) hx hb dX2_executedCountAt_5 (by decide) ?_
  refine lv_iand hx hb dX2_executedCountAt_8 ?_
  refine va_iald hx hb hK hP 1 0 rfl rfl (pk_andIn _ 8 (by decide) (by decide)) dX2_executedCountAt_9 ?_
  exact gRetI F hr hlocks hK hP hD hS rfl rfl (Nat.le_of_ble_eq_true rfl) (Nat.le_of_ble_eq_true rfl) dX2_executedCountAt_10
theorem okV_X2_executedCountAt : gOkV yX2_executedCountAt cX2_executedCountAt 2 (some .int) 1 := ⟨⟨k_im_X2_executedCountAt, k_se_X2_executedCountAt, k_in_X2, k_cd_X2_executedCountAt⟩, by decide, by decide, by decide +kernel⟩
def f_X2_isJumpTaken (ac : Int32) (ov : Int32) (p0 : Int32) : Int32 :=
  if p0 = 10 then
    if 0 ≤ ac then
      0
    else
      1
  else
    if p0 = 11 then
      if ac = 0 then
        1
      else
        0
    else
      if p0 = 12 then
        ov
      else
        0
set_option maxRecDepth 100000 in
set_option maxHeartbeats 4000000 in
theorem c_X2_isJumpTaken (l : Launch) (G : gG) (c0 : Nat) (s0 : Nat) (k0 : Nat) (i0 : Nat) (o0 : Nat) (x0 : Nat) (et : Int32) (wt : Int32) (tm : Int32) (sta : Int32) (he : Int32) (ac : Int32) (ov : Int32) (p0 : Int32) (hov : g01 ov) : gM l G yX2_isJumpTaken cX2_isJumpTaken 2 (some .boolean) { frames := 0, cells := 0, slots := 0, locals := 0 } [.ref c0, .int p0] [(c0, .inr (5, [.ref s0, .ref k0, .ref i0, .ref o0, .ref x0, .int et, .int wt, .int tm, .int sta, .int he, .int ac, .int ov]))] (some (.int (f_X2_isJumpTaken ac ov p0))) [(c0, .inr (5, [.ref s0, .ref k0, .ref i0, .ref o0, .ref x0, .int et, .int wt, .int tm, .int sta, .int he, .int ac, .int ov]))] 0 0 := by
  refine gBegin (by decide +kernel) (Nat.le_of_ble_eq_true rfl) (fun p e s m args below meth c A F hr hlocks hname hN hK hP hD hA hS ls hl => ?_)
  obtain ⟨hx, hb, hml, hown, hts⟩ := id F
  replace hP : va_P G.1 vwCl [(c0, .inr (5, [.ref s0, .ref k0, .ref i0, .ref o0, .ref x0, .int et, .int wt, .int tm, .int sta, .int he, .int ac, .int ov]))] s.heap := hP
  replace hl : lv_has ls 2 [(0, .ref c0), (1, .int p0)] := hl
  refine lv_iload_n hx hb dX2_isJumpTaken_0 rfl (lv_at hl 1 rfl) ?_
  rcases (Decidable.em (p0 = 10)) with c_1 | c_1
  · skip
    refine lv_tableIn (off := 27) (tgt := 28) hx hb dX2_isJumpTaken_1 (by rw [c_1]; decide) (by rw [c_1]; decide) (by rw [c_1]; decide) (by decide) ?_
    refine lv_aload_n hx hb dX2_isJumpTaken_28 rfl (lv_at hl 0 rfl) ?_
    refine va_get (D := G.1) (ci := 5) (v := .int ac) (C := RX2) (T := TX2) (N := 12) hx hb hts in_X2 hown hK hP 0 rfl rfl 10 (by decide) (hts _ k_fl_X2_89) (fun _ h9 => h9) rfl dX2_isJumpTaken_29 ?_
    refine lv_if_ge (tgt := 39) hx hb dX2_isJumpTaken_32 (by decide) (fun c_2 => ?_) (fun c_2 => ?_)
    · skip
      refine lv_iconst (v := 0) hx hb dX2_isJumpTaken_39 (by decide) ?_
      have ef : (f_X2_isJumpTaken ac ov p0) = 0 := ((if_pos c_1).trans (if_pos c_2))
      exact gRetZ F hr hlocks hK hP hD hS rfl (by rw [ef]) rfl (Nat.le_of_ble_eq_true rfl) (Nat.le_of_ble_eq_true rfl) dX2_isJumpTaken_40
    · skip
      refine lv_iconst (v := 1) hx hb dX2_isJumpTaken_35 (by decide) ?_
      refine lv_goto (tgt := 40) hx hb dX2_isJumpTaken_36 (by decide) ?_
      have ef : (f_X2_isJumpTaken ac ov p0) = 1 := ((if_pos c_1).trans (if_neg c_2))
      exact gRetZ F hr hlocks hK hP hD hS rfl (by rw [ef]) rfl (Nat.le_of_ble_eq_true rfl) (Nat.le_of_ble_eq_true rfl) dX2_isJumpTaken_40
  · skip
    rcases (Decidable.em (p0 = 11)) with c_3 | c_3
    · skip
      refine lv_tableIn (off := 40) (tgt := 41) hx hb dX2_isJumpTaken_1 (by rw [c_3]; decide) (by rw [c_3]; decide) (by rw [c_3]; decide) (by decide) ?_
      refine lv_aload_n hx hb dX2_isJumpTaken_41 rfl (lv_at hl 0 rfl) ?_
      refine va_get (D := G.1) (ci := 5) (v := .int ac) (C := RX2) (T := TX2) (N := 12) hx hb hts in_X2 hown hK hP 0 rfl rfl 10 (by decide) (hts _ k_fl_X2_89) (fun _ h9 => h9) rfl dX2_isJumpTaken_42 ?_
      refine lv_if_ne (tgt := 52) hx hb dX2_isJumpTaken_45 (by decide) (fun c_4 => ?_) (fun c_4 => ?_)
      · skip
        refine lv_iconst (v := 0) hx hb dX2_isJumpTaken_52 (by decide) ?_
        have ef : (f_X2_isJumpTaken ac ov p0) = 0 := ((if_neg c_1).trans ((if_pos c_3).trans (if_neg c_4)))
        exact gRetZ F hr hlocks hK hP hD hS rfl (by rw [ef]) rfl (Nat.le_of_ble_eq_true rfl) (Nat.le_of_ble_eq_true rfl) dX2_isJumpTaken_53
      · skip
        refine lv_iconst (v := 1) hx hb dX2_isJumpTaken_48 (by decide) ?_
        refine lv_goto (tgt := 53) hx hb dX2_isJumpTaken_49 (by decide) ?_
        have ef : (f_X2_isJumpTaken ac ov p0) = 1 := ((if_neg c_1).trans ((if_pos c_3).trans (if_pos c_4)))
        exact gRetZ F hr hlocks hK hP hD hS rfl (by rw [ef]) rfl (Nat.le_of_ble_eq_true rfl) (Nat.le_of_ble_eq_true rfl) dX2_isJumpTaken_53
    · skip
      rcases (Decidable.em (p0 = 12)) with c_5 | c_5
      · skip
        refine lv_tableIn (off := 53) (tgt := 54) hx hb dX2_isJumpTaken_1 (by rw [c_5]; decide) (by rw [c_5]; decide) (by rw [c_5]; decide) (by decide) ?_
        refine lv_aload_n hx hb dX2_isJumpTaken_54 rfl (lv_at hl 0 rfl) ?_
        refine va_get (D := G.1) (ci := 5) (v := .int ov) (C := RX2) (T := TX2) (N := 12) hx hb hts in_X2 hown hK hP 0 rfl rfl 11 (by decide) (hts _ k_fl_X2_101) (fun _ h9 => h9) rfl dX2_isJumpTaken_55 ?_
        have ef : (f_X2_isJumpTaken ac ov p0) = ov := ((if_neg c_1).trans ((if_neg c_3).trans (if_pos c_5)))
        exact gRetZ F hr hlocks hK hP hD hS (gNz (by first | exact g01_0 | exact g01_1 | exact hov)) (by rw [ef]) rfl (Nat.le_of_ble_eq_true rfl) (Nat.le_of_ble_eq_true rfl) dX2_isJumpTaken_58
      · skip
        have qc_1 : ¬ p0.toInt = 10 := lv_neT c_1 (by decide)
        have qc_3 : ¬ p0.toInt = 11 := lv_neT c_3 (by decide)
        have qc_5 : ¬ p0.toInt = 12 := lv_neT c_5 (by decide)
        refine lv_tableOut (tgt := 59) hx hb dX2_isJumpTaken_1 (by omega) (by decide) ?_
        refine lv_iconst (v := 0) hx hb dX2_isJumpTaken_59 (by decide) ?_
        have ef : (f_X2_isJumpTaken ac ov p0) = 0 := ((if_neg c_1).trans ((if_neg c_3).trans (if_neg c_5)))
        exact gRetZ F hr hlocks hK hP hD hS rfl (by rw [ef]) rfl (Nat.le_of_ble_eq_true rfl) (Nat.le_of_ble_eq_true rfl) dX2_isJumpTaken_60
theorem okV_X2_isJumpTaken : gOkV yX2_isJumpTaken cX2_isJumpTaken 2 (some .boolean) 1 := ⟨⟨k_im_X2_isJumpTaken, k_se_X2_isJumpTaken, k_in_X2, k_cd_X2_isJumpTaken⟩, by decide, by decide, by decide +kernel⟩
def f_X2_putResult (ov : Int32) (p0 : Int64) : Int32 × Int32 :=
  if (Int32.toInt64 (f_X6_wrap p0)) = p0 then
    ((f_X6_wrap p0), ov)
  else
    ((f_X6_wrap p0), 1)
set_option maxRecDepth 100000 in
set_option maxHeartbeats 4000000 in
theorem c_X2_putResult (l : Launch) (G : gG) (c0 : Nat) (s0 : Nat) (k0 : Nat) (i0 : Nat) (o0 : Nat) (x0 : Nat) (et : Int32) (wt : Int32) (tm : Int32) (sta : Int32) (he : Int32) (ac : Int32) (ov : Int32) (p0 : Int64) : gM l G yX2_putResult cX2_putResult 3 none { frames := 1, cells := 0, slots := 0, locals := 22 } [.ref c0, .long p0] [(c0, .inr (5, [.ref s0, .ref k0, .ref i0, .ref o0, .ref x0, .int et, .int wt, .int tm, .int sta, .int he, .int ac, .int ov]))] none [(c0, .inr (5, [.ref s0, .ref k0, .ref i0, .ref o0, .ref x0, .int et, .int wt, .int tm, .int sta, .int he, .int ((f_X2_putResult ov p0).1), .int ((f_X2_putResult ov p0).2)]))] 0 0 := by
  refine gBegin (by decide +kernel) (Nat.le_of_ble_eq_true rfl) (fun p e s m args below meth c A F hr hlocks hname hN hK hP hD hA hS ls hl => ?_)
  obtain ⟨hx, hb, hml, hown, hts⟩ := id F
  replace hP : va_P G.1 vwCl [(c0, .inr (5, [.ref s0, .ref k0, .ref i0, .ref o0, .ref x0, .int et, .int wt, .int tm, .int sta, .int he, .int ac, .int ov]))] s.heap := hP
  replace hl : lv_has ls 3 [(0, .ref c0), (1, .long p0)] := hl
  refine lv_aload_n hx hb dX2_putResult_0 rfl (lv_at hl 0 rfl) ?_
  refine lv_lload_n hx hb dX2_putResult_1 rfl (lv_at hl 1 rfl) ?_
  refine gSN (As := [.long p0]) (rest := [.ref c0]) (wr := [(c0, .inr (5, [.ref s0, .ref k0, .ref i0, .ref o0, .ref x0, .int et, .int wt, .int tm, .int sta, .int he, .int ac, .int ov]))]) (ws' := [(c0, .inr (5, [.ref s0, .ref k0, .ref i0, .ref o0, .ref x0, .int et, .int wt, .int tm, .int sta, .int he, .int ac, .int ov]))]) F (c_X6_wrap l G p0) okS_X6_wrap kn_X2_108 rfl rfl ⟨Nat.le_of_ble_eq_true rfl, Nat.le_of_ble_eq_true rfl⟩ hN hK hP hD hS hA [] [0] [0] (by decide) rfl rfl (by decide) (by decide) (by decide) rfl rfl rfl hl.1 (Nat.le_of_ble_eq_true rfl) dX2_putResult_2 ⟨Nat.le_refl _, Nat.le_refl _⟩ (fun H locs hP hD hS => ?_)
  refine va_put (D := G.1) (ci := 5) (v := .int (f_X6_wrap p0)) (ty := .int) (C := RX2) (T := TX2) (N := 12) hx hb hts in_X2 tyX2 tyX2_ok nmX2 hown hK hP hD hS 0 rfl rfl 10 (by decide) (hts _ k_fl_X2_89) (fun _ h9 => h9) rfl (by decide +kernel) rfl rfl (Nat.le_of_ble_eq_true rfl) dX2_putResult_5 (fun H locs hP hD hS => ?_)
  replace hP : va_P G.1 vwCl [(c0, .inr (5, [.ref s0, .ref k0, .ref i0, .ref o0, .ref x0, .int et, .int wt, .int tm, .int sta, .int he, .int (f_X6_wrap p0), .int ov]))] H := hP
  replace hD : va_D A [(c0, .inr (5, [.ref s0, .ref k0, .ref i0, .ref o0, .ref x0, .int et, .int wt, .int tm, .int sta, .int he, .int (f_X6_wrap p0), .int ov]))] := hD
  refine lv_aload_n hx hb dX2_putResult_8 rfl (lv_at hl 0 rfl) ?_
  refine va_get (D := G.1) (ci := 5) (v := .int (f_X6_wrap p0)) (C := RX2) (T := TX2) (N := 12) hx hb hts in_X2 hown hK hP 0 rfl rfl 10 (by decide) (hts _ k_fl_X2_89) (fun _ h9 => h9) rfl dX2_putResult_9 ?_
  refine lv_i2l (v := (Int32.toInt64 (f_X6_wrap p0))) hx hb dX2_putResult_12 rfl ?_
  refine lv_lload_n hx hb dX2_putResult_13 rfl (lv_at hl 1 rfl) ?_
  refine gLc_eq (tgt := 23) hx hb dX2_putResult_14 dX2_putResult_15 (by decide) (fun c_1 => ?_) (fun c_1 => ?_)
  · skip
    have ef : (f_X2_putResult ov p0) = ((f_X6_wrap p0), ov) := (if_pos c_1)
    exact gRetV F hr hlocks hK hP hD hS rfl (by rw [ef]) (Nat.le_of_ble_eq_true rfl) (Nat.le_of_ble_eq_true rfl) dX2_putResult_23
  · skip
    refine lv_aload_n hx hb dX2_putResult_18 rfl (lv_at hl 0 rfl) ?_
    refine lv_iconst (v := 1) hx hb dX2_putResult_19 (by decide) ?_
    refine va_put (D := G.1) (ci := 5) (v := .int 1) (ty := .boolean) (C := RX2) (T := TX2) (N := 12) hx hb hts in_X2 tyX2 tyX2_ok nmX2 hown hK hP hD hS 0 rfl rfl 11 (by decide) (hts _ k_fl_X2_101) (fun _ h9 => h9) rfl (by decide +kernel) rfl rfl (Nat.le_of_ble_eq_true rfl) dX2_putResult_20 (fun H locs hP hD hS => ?_)
    replace hP : va_P G.1 vwCl [(c0, .inr (5, [.ref s0, .ref k0, .ref i0, .ref o0, .ref x0, .int et, .int wt, .int tm, .int sta, .int he, .int (f_X6_wrap p0), .int 1]))] H := hP
    replace hD : va_D A [(c0, .inr (5, [.ref s0, .ref k0, .ref i0, .ref o0, .ref x0, .int et, .int wt, .int tm, .int sta, .int he, .int (f_X6_wrap p0), .int 1]))] := hD
    have ef : (f_X2_putResult ov p0) = ((f_X6_wrap p0), 1) := (if_neg c_1)
    exact gRetV F hr hlocks hK hP hD hS rfl (by rw [ef]) (Nat.le_of_ble_eq_true rfl) (Nat.le_of_ble_eq_true rfl) dX2_putResult_23
theorem okV_X2_putResult : gOkV yX2_putResult cX2_putResult 3 none 1 := ⟨⟨k_im_X2_putResult, k_se_X2_putResult, k_in_X2, k_cd_X2_putResult⟩, by decide, by decide, by decide +kernel⟩
def f_X2_combine (ac : Int32) (ov : Int32) (p0 : Int32) (p1 : Int32) : Int32 × Int32 :=
  if p0 = 1 then
    (p1, ov)
  else
    if p0 = 2 then
      (ac, ov)
    else
      if p0 = 3 then
        ((f_X2_putResult ov ((Int32.toInt64 ac) + (Int32.toInt64 p1))).1, (f_X2_putResult ov ((Int32.toInt64 ac) + (Int32.toInt64 p1))).2)
      else
        if p0 = 4 then
          ((f_X2_putResult ov ((Int32.toInt64 ac) - (Int32.toInt64 p1))).1, (f_X2_putResult ov ((Int32.toInt64 ac) - (Int32.toInt64 p1))).2)
        else
          if p0 = 5 then
            ((ac &&& p1), ov)
          else
            if p0 = 6 then
              ((ac ^^^ p1), ov)
            else
              if p0 = 7 then
                ((f_X2_putResult ov ((Int32.toInt64 ac) * (Int32.toInt64 p1))).1, (f_X2_putResult ov ((Int32.toInt64 ac) * (Int32.toInt64 p1))).2)
              else
                if p0 = 8 then
                  (ac, ov)
                else
                  if p0 = 9 then
                    (ac, ov)
                  else
                    if p0 = 10 then
                      (ac, ov)
                    else
                      if p0 = 11 then
                        (ac, ov)
                      else
                        if p0 = 12 then
                          (ac, ov)
                        else
                          if p0 = 13 then
                            (ac, ov)
                          else
                            if p0 = 14 then
                              (ac, ov)
                            else
                              if p0 = 15 then
                                ((f_X6_wrap ((Int32.toInt64 p1) - 1)), ov)
                              else
                                (ac, ov)
set_option maxRecDepth 100000 in
set_option maxHeartbeats 4000000 in
theorem c_X2_combine (l : Launch) (G : gG) (c0 : Nat) (s0 : Nat) (k0 : Nat) (i0 : Nat) (o0 : Nat) (x0 : Nat) (et : Int32) (wt : Int32) (tm : Int32) (sta : Int32) (he : Int32) (ac : Int32) (ov : Int32) (p0 : Int32) (p1 : Int32) : gM l G yX2_combine cX2_combine 3 none { frames := 2, cells := 0, slots := 0, locals := 44 } [.ref c0, .int p0, .int p1] [(c0, .inr (5, [.ref s0, .ref k0, .ref i0, .ref o0, .ref x0, .int et, .int wt, .int tm, .int sta, .int he, .int ac, .int ov]))] none [(c0, .inr (5, [.ref s0, .ref k0, .ref i0, .ref o0, .ref x0, .int et, .int wt, .int tm, .int sta, .int he, .int ((f_X2_combine ac ov p0 p1).1), .int ((f_X2_combine ac ov p0 p1).2)]))] 0 0 := by
  refine gBegin (by decide +kernel) (Nat.le_of_ble_eq_true rfl) (fun p e s m args below meth c A F hr hlocks hname hN hK hP hD hA hS ls hl => ?_)
  obtain ⟨hx, hb, hml, hown, hts⟩ := id F
  replace hP : va_P G.1 vwCl [(c0, .inr (5, [.ref s0, .ref k0, .ref i0, .ref o0, .ref x0, .int et, .int wt, .int tm, .int sta, .int he, .int ac, .int ov]))] s.heap := hP
  replace hl : lv_has ls 3 [(0, .ref c0), (1, .int p0), (2, .int p1)] := hl
  refine lv_iload_n hx hb dX2_combine_0 rfl (lv_at hl 1 rfl) ?_
  rcases (Decidable.em (p0 = 1)) with c_1 | c_1
  · skip
    refine lv_tableIn (off := 75) (tgt := 76) hx hb dX2_combine_1 (by rw [c_1]; decide) (by rw [c_1]; decide) (by rw [c_1]; decide) (by decide) ?_
    refine lv_aload_n hx hb dX2_combine_76 rfl (lv_at hl 0 rfl) ?_
    refine lv_iload_n hx hb dX2_combine_77 rfl (lv_at hl 2 rfl) ?_
    refine va_put (D := G.1) (ci := 5) (v := .int p1) (ty := .int) (C := RX2) (T := TX2) (N := 12) hx hb hts in_X2 tyX2 tyX2_ok nmX2 hown hK hP hD hS 0 rfl rfl 10 (by decide) (hts _ k_fl_X2_89) (fun _ h9 => h9) rfl (by decide +kernel) rfl rfl (Nat.le_of_ble_eq_true rfl) dX2_combine_78 (fun H locs hP hD hS => ?_)
    replace hP : va_P G.1 vwCl [(c0, .inr (5, [.ref s0, .ref k0, .ref i0, .ref o0, .ref x0, .int et, .int wt, .int tm, .int sta, .int he, .int p1, .int ov]))] H := hP
    replace hD : va_D A [(c0, .inr (5, [.ref s0, .ref k0, .ref i0, .ref o0, .ref x0, .int et, .int wt, .int tm, .int sta, .int he, .int p1, .int ov]))] := hD
    refine lv_goto (tgt := 169) hx hb dX2_combine_81 (by decide) ?_
    have ef : (f_X2_combine ac ov p0 p1) = (p1, ov) := (if_pos c_1)
    exact gRetV F hr hlocks hK hP hD hS rfl (by rw [ef]) (Nat.le_of_ble_eq_true rfl) (Nat.le_of_ble_eq_true rfl) dX2_combine_169
  · skip
    rcases (Decidable.em (p0 = 2)) with c_2 | c_2
    · skip
      refine lv_tableIn (off := 168) (tgt := 169) hx hb dX2_combine_1 (by rw [c_2]; decide) (by rw [c_2]; decide) (by rw [c_2]; decide) (by decide) ?_
      have ef : (f_X2_combine ac ov p0 p1) = (ac, ov) := ((if_neg c_1).trans (if_pos c_2))
      exact gRetV F hr hlocks hK hP hD hS rfl (by rw [ef]) (Nat.le_of_ble_eq_true rfl) (Nat.le_of_ble_eq_true rfl) dX2_combine_169
    · skip
      rcases (Decidable.em (p0 = 3)) with c_3 | c_3
      · skip
        refine lv_tableIn (off := 83) (tgt := 84) hx hb dX2_combine_1 (by rw [c_3]; decide) (by rw [c_3]; decide) (by rw [c_3]; decide) (by decide) ?_
        refine lv_aload_n hx hb dX2_combine_84 rfl (lv_at hl 0 rfl) ?_
        refine lv_aload_n hx hb dX2_combine_85 rfl (lv_at hl 0 rfl) ?_
        refine va_get (D := G.1) (ci := 5) (v := .int ac) (C := RX2) (T := TX2) (N := 12) hx hb hts in_X2 hown hK hP 0 rfl rfl 10 (by decide) (hts _ k_fl_X2_89) (fun _ h9 => h9) rfl dX2_combine_86 ?_
        refine lv_i2l (v := (Int32.toInt64 ac)) hx hb dX2_combine_89 rfl ?_
        refine lv_iload_n hx hb dX2_combine_90 rfl (lv_at hl 2 rfl) ?_
        refine lv_i2l (v := (Int32.toInt64 p1)) hx hb dX2_combine_91 rfl ?_
        refine lv_ladd hx hb dX2_combine_92 ?_
        refine gV (As := [.long ((Int32.toInt64 ac) + (Int32.toInt64 p1))]) (rest := []) (wr := []) (ws' := [(c0, .inr (5, [.ref s0, .ref k0, .ref i0, .ref o0, .ref x0, .int et, .int wt, .int tm, .int sta, .int he, .int ((f_X2_putResult ov ((Int32.toInt64 ac) + (Int32.toInt64 p1))).1), .int ((f_X2_putResult ov ((Int32.toInt64 ac) + (Int32.toInt64 p1))).2)]))]) F (c_X2_putResult l G c0 s0 k0 i0 o0 x0 et wt tm sta he ac ov ((Int32.toInt64 ac) + (Int32.toInt64 p1))) okV_X2_putResult k_ml_X2_122 rfl rfl ⟨Nat.le_of_ble_eq_true rfl, Nat.le_of_ble_eq_true rfl⟩ hN hK hP hD hS hA [0] [] [0] (by decide) rfl rfl (by decide) (by decide) (by decide) rfl (q0 := 0) rfl rfl rfl rfl hl.1 (Nat.le_of_ble_eq_true rfl) dX2_combine_93 ⟨Nat.le_refl _, Nat.le_refl _⟩ (fun H locs hP hD hS => ?_)
        refine lv_goto (tgt := 169) hx hb dX2_combine_96 (by decide) ?_
        have ef : (f_X2_combine ac ov p0 p1) = ((f_X2_putResult ov ((Int32.toInt64 ac) + (Int32.toInt64 p1))).1, (f_X2_putResult ov ((Int32.toInt64 ac) + (Int32.toInt64 p1))).2) := ((if_neg c_1).trans ((if_neg c_2).trans (if_pos c_3)))
        exact gRetV F hr hlocks hK hP hD hS rfl (by rw [ef]) (Nat.le_of_ble_eq_true rfl) (Nat.le_of_ble_eq_true rfl) dX2_combine_169
      · skip
        rcases (Decidable.em (p0 = 4)) with c_4 | c_4
        · skip
          refine lv_tableIn (off := 98) (tgt := 99) hx hb dX2_combine_1 (by rw [c_4]; decide) (by rw [c_4]; decide) (by rw [c_4]; decide) (by decide) ?_
          refine lv_aload_n hx hb dX2_combine_99 rfl (lv_at hl 0 rfl) ?_
          refine lv_aload_n hx hb dX2_combine_100 rfl (lv_at hl 0 rfl) ?_
          refine va_get (D := G.1) (ci := 5) (v := .int ac) (C := RX2) (T := TX2) (N := 12) hx hb hts in_X2 hown hK hP 0 rfl rfl 10 (by decide) (hts _ k_fl_X2_89) (fun _ h9 => h9) rfl dX2_combine_101 ?_
          refine lv_i2l (v := (Int32.toInt64 ac)) hx hb dX2_combine_104 rfl ?_
          refine lv_iload_n hx hb dX2_combine_105 rfl (lv_at hl 2 rfl) ?_
          refine lv_i2l (v := (Int32.toInt64 p1)) hx hb dX2_combine_106 rfl ?_
          refine lv_lsub hx hb dX2_combine_107 ?_
          refine gV (As := [.long ((Int32.toInt64 ac) - (Int32.toInt64 p1))]) (rest := []) (wr := []) (ws' := [(c0, .inr (5, [.ref s0, .ref k0, .ref i0, .ref o0, .ref x0, .int et, .int wt, .int tm, .int sta, .int he, .int ((f_X2_putResult ov ((Int32.toInt64 ac) - (Int32.toInt64 p1))).1), .int ((f_X2_putResult ov ((Int32.toInt64 ac) - (Int32.toInt64 p1))).2)]))]) F (c_X2_putResult l G c0 s0 k0 i0 o0 x0 et wt tm sta he ac ov ((Int32.toInt64 ac) - (Int32.toInt64 p1))) okV_X2_putResult k_ml_X2_122 rfl rfl ⟨Nat.le_of_ble_eq_true rfl, Nat.le_of_ble_eq_true rfl⟩ hN hK hP hD hS hA [0] [] [0] (by decide) rfl rfl (by decide) (by decide) (by decide) rfl (q0 := 0) rfl rfl rfl rfl hl.1 (Nat.le_of_ble_eq_true rfl) dX2_combine_108 ⟨Nat.le_refl _, Nat.le_refl _⟩ (fun H locs hP hD hS => ?_)
          refine lv_goto (tgt := 169) hx hb dX2_combine_111 (by decide) ?_
          have ef : (f_X2_combine ac ov p0 p1) = ((f_X2_putResult ov ((Int32.toInt64 ac) - (Int32.toInt64 p1))).1, (f_X2_putResult ov ((Int32.toInt64 ac) - (Int32.toInt64 p1))).2) := ((if_neg c_1).trans ((if_neg c_2).trans ((if_neg c_3).trans (if_pos c_4))))
          exact gRetV F hr hlocks hK hP hD hS rfl (by rw [ef]) (Nat.le_of_ble_eq_true rfl) (Nat.le_of_ble_eq_true rfl) dX2_combine_169
        · skip
          rcases (Decidable.em (p0 = 5)) with c_5 | c_5
          · skip
            refine lv_tableIn (off := 113) (tgt := 114) hx hb dX2_combine_1 (by rw [c_5]; decide) (by rw [c_5]; decide) (by rw [c_5]; decide) (by decide) ?_
            refine lv_aload_n hx hb dX2_combine_114 rfl (lv_at hl 0 rfl) ?_
            refine lv_dup hx hb dX2_combine_115 rfl ?_
            refine va_get (D := G.1) (ci := 5) (v := .int ac) (C := RX2) (T := TX2) (N := 12) hx hb hts in_X2 hown hK hP 0 rfl rfl 10 (by decide) (hts _ k_fl_X2_89) (fun _ h9 => h9) rfl dX2_combine_116 ?_
            refine lv_iload_n hx hb dX2_combine_119 rfl (lv_at hl 2 rfl) ?_
            refine lv_iand hx hb dX2_combine_120 ?_
            refine va_put (D := G.1) (ci := 5) (v := .int (ac &&& p1)) (ty := .int) (C := RX2) (T := TX2) (N := 12) hx hb hts in_X2 tyX2 tyX2_ok nmX2 hown hK hP hD hS 0 rfl rfl 10 (by decide) (hts _ k_fl_X2_89) (fun _ h9 => h9) rfl (by decide +kernel) rfl rfl (Nat.le_of_ble_eq_true rfl) dX2_combine_121 (fun H locs hP hD hS => ?_)
            replace hP : va_P G.1 vwCl [(c0, .inr (5, [.ref s0, .ref k0, .ref i0, .ref o0, .ref x0, .int et, .int wt, .int tm, .int sta, .int he, .int (ac &&& p1), .int ov]))] H := hP
            replace hD : va_D A [(c0, .inr (5, [.ref s0, .ref k0, .ref i0, .ref o0, .ref x0, .int et, .int wt, .int tm, .int sta, .int he, .int (ac &&& p1), .int ov]))] := hD
            refine lv_goto (tgt := 169) hx hb dX2_combine_124 (by decide) ?_
            have ef : (f_X2_combine ac ov p0 p1) = ((ac &&& p1), ov) := ((if_neg c_1).trans ((if_neg c_2).trans ((if_neg c_3).trans ((if_neg c_4).trans (if_pos c_5)))))
            exact gRetV F hr hlocks hK hP hD hS rfl (by rw [ef]) (Nat.le_of_ble_eq_true rfl) (Nat.le_of_ble_eq_true rfl) dX2_combine_169
          · skip
            rcases (Decidable.em (p0 = 6)) with c_6 | c_6
            · skip
              refine lv_tableIn (off := 126) (tgt := 127) hx hb dX2_combine_1 (by rw [c_6]; decide) (by rw [c_6]; decide) (by rw [c_6]; decide) (by decide) ?_
              refine lv_aload_n hx hb dX2_combine_127 rfl (lv_at hl 0 rfl) ?_
              refine lv_dup hx hb dX2_combine_128 rfl ?_
              refine va_get (D := G.1) (ci := 5) (v := .int ac) (C := RX2) (T := TX2) (N := 12) hx hb hts in_X2 hown hK hP 0 rfl rfl 10 (by decide) (hts _ k_fl_X2_89) (fun _ h9 => h9) rfl dX2_combine_129 ?_
              refine lv_iload_n hx hb dX2_combine_132 rfl (lv_at hl 2 rfl) ?_
              refine lv_ixor hx hb dX2_combine_133 ?_
              refine va_put (D := G.1) (ci := 5) (v := .int (ac ^^^ p1)) (ty := .int) (C := RX2) (T := TX2) (N := 12) hx hb hts in_X2 tyX2 tyX2_ok nmX2 hown hK hP hD hS 0 rfl rfl 10 (by decide) (hts _ k_fl_X2_89) (fun _ h9 => h9) rfl (by decide +kernel) rfl rfl (Nat.le_of_ble_eq_true rfl) dX2_combine_134 (fun H locs hP hD hS => ?_)
              replace hP : va_P G.1 vwCl [(c0, .inr (5, [.ref s0, .ref k0, .ref i0, .ref o0, .ref x0, .int et, .int wt, .int tm, .int sta, .int he, .int (ac ^^^ p1), .int ov]))] H := hP
              replace hD : va_D A [(c0, .inr (5, [.ref s0, .ref k0, .ref i0, .ref o0, .ref x0, .int et, .int wt, .int tm, .int sta, .int he, .int (ac ^^^ p1), .int ov]))] := hD
              refine lv_goto (tgt := 169) hx hb dX2_combine_137 (by decide) ?_
              have ef : (f_X2_combine ac ov p0 p1) = ((ac ^^^ p1), ov) := ((if_neg c_1).trans ((if_neg c_2).trans ((if_neg c_3).trans ((if_neg c_4).trans ((if_neg c_5).trans (if_pos c_6))))))
              exact gRetV F hr hlocks hK hP hD hS rfl (by rw [ef]) (Nat.le_of_ble_eq_true rfl) (Nat.le_of_ble_eq_true rfl) dX2_combine_169
            · skip
              rcases (Decidable.em (p0 = 7)) with c_7 | c_7
              · skip
                refine lv_tableIn (off := 139) (tgt := 140) hx hb dX2_combine_1 (by rw [c_7]; decide) (by rw [c_7]; decide) (by rw [c_7]; decide) (by decide) ?_
                refine lv_aload_n hx hb dX2_combine_140 rfl (lv_at hl 0 rfl) ?_
                refine lv_aload_n hx hb dX2_combine_141 rfl (lv_at hl 0 rfl) ?_
                refine va_get (D := G.1) (ci := 5) (v := .int ac) (C := RX2) (T := TX2) (N := 12) hx hb hts in_X2 hown hK hP 0 rfl rfl 10 (by decide) (hts _ k_fl_X2_89) (fun _ h9 => h9) rfl dX2_combine_142 ?_
                refine lv_i2l (v := (Int32.toInt64 ac)) hx hb dX2_combine_145 rfl ?_
                refine lv_iload_n hx hb dX2_combine_146 rfl (lv_at hl 2 rfl) ?_
                refine lv_i2l (v := (Int32.toInt64 p1)) hx hb dX2_combine_147 rfl ?_
                refine lv_lmul hx hb dX2_combine_148 ?_
                refine gV (As := [.long ((Int32.toInt64 ac) * (Int32.toInt64 p1))]) (rest := []) (wr := []) (ws' := [(c0, .inr (5, [.ref s0, .ref k0, .ref i0, .ref o0, .ref x0, .int et, .int wt, .int tm, .int sta, .int he, .int ((f_X2_putResult ov ((Int32.toInt64 ac) * (Int32.toInt64 p1))).1), .int ((f_X2_putResult ov ((Int32.toInt64 ac) * (Int32.toInt64 p1))).2)]))]) F (c_X2_putResult l G c0 s0 k0 i0 o0 x0 et wt tm sta he ac ov ((Int32.toInt64 ac) * (Int32.toInt64 p1))) okV_X2_putResult k_ml_X2_122 rfl rfl ⟨Nat.le_of_ble_eq_true rfl, Nat.le_of_ble_eq_true rfl⟩ hN hK hP hD hS hA [0] [] [0] (by decide) rfl rfl (by decide) (by decide) (by decide) rfl (q0 := 0) rfl rfl rfl rfl hl.1 (Nat.le_of_ble_eq_true rfl) dX2_combine_149 ⟨Nat.le_refl _, Nat.le_refl _⟩ (fun H locs hP hD hS => ?_)
                refine lv_goto (tgt := 169) hx hb dX2_combine_152 (by decide) ?_
                have ef : (f_X2_combine ac ov p0 p1) = ((f_X2_putResult ov ((Int32.toInt64 ac) * (Int32.toInt64 p1))).1, (f_X2_putResult ov ((Int32.toInt64 ac) * (Int32.toInt64 p1))).2) := ((if_neg c_1).trans ((if_neg c_2).trans ((if_neg c_3).trans ((if_neg c_4).trans ((if_neg c_5).trans ((if_neg c_6).trans (if_pos c_7)))))))
                exact gRetV F hr hlocks hK hP hD hS rfl (by rw [ef]) (Nat.le_of_ble_eq_true rfl) (Nat.le_of_ble_eq_true rfl) dX2_combine_169
              · skip
                rcases (Decidable.em (p0 = 8)) with c_8 | c_8
                · skip
                  refine lv_tableIn (off := 168) (tgt := 169) hx hb dX2_combine_1 (by rw [c_8]; decide) (by rw [c_8]; decide) (by rw [c_8]; decide) (by decide) ?_
                  have ef : (f_X2_combine ac ov p0 p1) = (ac, ov) := ((if_neg c_1).trans ((if_neg c_2).trans ((if_neg c_3).trans ((if_neg c_4).trans ((if_neg c_5).trans ((if_neg c_6).trans ((if_neg c_7).trans (if_pos c_8))))))))
                  exact gRetV F hr hlocks hK hP hD hS rfl (by rw [ef]) (Nat.le_of_ble_eq_true rfl) (Nat.le_of_ble_eq_true rfl) dX2_combine_169
                · skip
                  rcases (Decidable.em (p0 = 9)) with c_9 | c_9
                  · skip
                    refine lv_tableIn (off := 168) (tgt := 169) hx hb dX2_combine_1 (by rw [c_9]; decide) (by rw [c_9]; decide) (by rw [c_9]; decide) (by decide) ?_
                    have ef : (f_X2_combine ac ov p0 p1) = (ac, ov) := ((if_neg c_1).trans ((if_neg c_2).trans ((if_neg c_3).trans ((if_neg c_4).trans ((if_neg c_5).trans ((if_neg c_6).trans ((if_neg c_7).trans ((if_neg c_8).trans (if_pos c_9)))))))))
                    exact gRetV F hr hlocks hK hP hD hS rfl (by rw [ef]) (Nat.le_of_ble_eq_true rfl) (Nat.le_of_ble_eq_true rfl) dX2_combine_169
                  · skip
                    rcases (Decidable.em (p0 = 10)) with c_10 | c_10
                    · skip
                      refine lv_tableIn (off := 168) (tgt := 169) hx hb dX2_combine_1 (by rw [c_10]; decide) (by rw [c_10]; decide) (by rw [c_10]; decide) (by decide) ?_
                      have ef : (f_X2_combine ac ov p0 p1) = (ac, ov) := ((if_neg c_1).trans ((if_neg c_2).trans ((if_neg c_3).trans ((if_neg c_4).trans ((if_neg c_5).trans ((if_neg c_6).trans ((if_neg c_7).trans ((if_neg c_8).trans ((if_neg c_9).trans (if_pos c_10))))))))))
                      exact gRetV F hr hlocks hK hP hD hS rfl (by rw [ef]) (Nat.le_of_ble_eq_true rfl) (Nat.le_of_ble_eq_true rfl) dX2_combine_169
                    · skip
                      rcases (Decidable.em (p0 = 11)) with c_11 | c_11
                      · skip
                        refine lv_tableIn (off := 168) (tgt := 169) hx hb dX2_combine_1 (by rw [c_11]; decide) (by rw [c_11]; decide) (by rw [c_11]; decide) (by decide) ?_
                        have ef : (f_X2_combine ac ov p0 p1) = (ac, ov) := ((if_neg c_1).trans ((if_neg c_2).trans ((if_neg c_3).trans ((if_neg c_4).trans ((if_neg c_5).trans ((if_neg c_6).trans ((if_neg c_7).trans ((if_neg c_8).trans ((if_neg c_9).trans ((if_neg c_10).trans (if_pos c_11)))))))))))
                        exact gRetV F hr hlocks hK hP hD hS rfl (by rw [ef]) (Nat.le_of_ble_eq_true rfl) (Nat.le_of_ble_eq_true rfl) dX2_combine_169
                      · skip
                        rcases (Decidable.em (p0 = 12)) with c_12 | c_12
                        · skip
                          refine lv_tableIn (off := 168) (tgt := 169) hx hb dX2_combine_1 (by rw [c_12]; decide) (by rw [c_12]; decide) (by rw [c_12]; decide) (by decide) ?_
                          have ef : (f_X2_combine ac ov p0 p1) = (ac, ov) := ((if_neg c_1).trans ((if_neg c_2).trans ((if_neg c_3).trans ((if_neg c_4).trans ((if_neg c_5).trans ((if_neg c_6).trans ((if_neg c_7).trans ((if_neg c_8).trans ((if_neg c_9).trans ((if_neg c_10).trans ((if_neg c_11).trans (if_pos c_12))))))))))))
                          exact gRetV F hr hlocks hK hP hD hS rfl (by rw [ef]) (Nat.le_of_ble_eq_true rfl) (Nat.le_of_ble_eq_true rfl) dX2_combine_169
                        · skip
                          rcases (Decidable.em (p0 = 13)) with c_13 | c_13
                          · skip
                            refine lv_tableIn (off := 168) (tgt := 169) hx hb dX2_combine_1 (by rw [c_13]; decide) (by rw [c_13]; decide) (by rw [c_13]; decide) (by decide) ?_
                            have ef : (f_X2_combine ac ov p0 p1) = (ac, ov) := ((if_neg c_1).trans ((if_neg c_2).trans ((if_neg c_3).trans ((if_neg c_4).trans ((if_neg c_5).trans ((if_neg c_6).trans ((if_neg c_7).trans ((if_neg c_8).trans ((if_neg c_9).trans ((if_neg c_10).trans ((if_neg c_11).trans ((if_neg c_12).trans (if_pos c_13)))))))))))))
                            exact gRetV F hr hlocks hK hP hD hS rfl (by rw [ef]) (Nat.le_of_ble_eq_true rfl) (Nat.le_of_ble_eq_true rfl) dX2_combine_169
                          · skip
                            rcases (Decidable.em (p0 = 14)) with c_14 | c_14
                            · skip
                              refine lv_tableIn (off := 168) (tgt := 169) hx hb dX2_combine_1 (by rw [c_14]; decide) (by rw [c_14]; decide) (by rw [c_14]; decide) (by decide) ?_
                              have ef : (f_X2_combine ac ov p0 p1) = (ac, ov) := ((if_neg c_1).trans ((if_neg c_2).trans ((if_neg c_3).trans ((if_neg c_4).trans ((if_neg c_5).trans ((if_neg c_6).trans ((if_neg c_7).trans ((if_neg c_8).trans ((if_neg c_9).trans ((if_neg c_10).trans ((if_neg c_11).trans ((if_neg c_12).trans ((if_neg c_13).trans (if_pos c_14))))))))))))))
                              exact gRetV F hr hlocks hK hP hD hS rfl (by rw [ef]) (Nat.le_of_ble_eq_true rfl) (Nat.le_of_ble_eq_true rfl) dX2_combine_169
                            · skip
                              rcases (Decidable.em (p0 = 15)) with c_15 | c_15
                              · skip
                                refine lv_tableIn (off := 154) (tgt := 155) hx hb dX2_combine_1 (by rw [c_15]; decide) (by rw [c_15]; decide) (by rw [c_15]; decide) (by decide) ?_
                                refine lv_aload_n hx hb dX2_combine_155 rfl (lv_at hl 0 rfl) ?_
                                refine lv_iload_n hx hb dX2_combine_156 rfl (lv_at hl 2 rfl) ?_
                                refine lv_i2l (v := (Int32.toInt64 p1)) hx hb dX2_combine_157 rfl ?_
                                refine lv_lconst (v := 1) hx hb dX2_combine_158 (by decide) ?_
                                refine lv_lsub hx hb dX2_combine_159 ?_
                                refine gSN (As := [.long ((Int32.toInt64 p1) - 1)]) (rest := [.ref c0]) (wr := [(c0, .inr (5, [.ref s0, .ref k0, .ref i0, .ref o0, .ref x0, .int et, .int wt, .int tm, .int sta, .int he, .int ac, .int ov]))]) (ws' := [(c0, .inr (5, [.ref s0, .ref k0, .ref i0, .ref o0, .ref x0, .int et, .int wt, .int tm, .int sta, .int he, .int ac, .int ov]))]) F (c_X6_wrap l G ((Int32.toInt64 p1) - 1)) okS_X6_wrap kn_X2_108 rfl rfl ⟨Nat.le_of_ble_eq_true rfl, Nat.le_of_ble_eq_true rfl⟩ hN hK hP hD hS hA [] [0] [0] (by decide) rfl rfl (by decide) (by decide) (by decide) rfl rfl rfl hl.1 (Nat.le_of_ble_eq_true rfl) dX2_combine_160 ⟨Nat.le_refl _, Nat.le_refl _⟩ (fun H locs hP hD hS => ?_)
                                refine va_put (D := G.1) (ci := 5) (v := .int (f_X6_wrap ((Int32.toInt64 p1) - 1))) (ty := .int) (C := RX2) (T := TX2) (N := 12) hx hb hts in_X2 tyX2 tyX2_ok nmX2 hown hK hP hD hS 0 rfl rfl 10 (by decide) (hts _ k_fl_X2_89) (fun _ h9 => h9) rfl (by decide +kernel) rfl rfl (Nat.le_of_ble_eq_true rfl) dX2_combine_163 (fun H locs hP hD hS => ?_)
                                replace hP : va_P G.1 vwCl [(c0, .inr (5, [.ref s0, .ref k0, .ref i0, .ref o0, .ref x0, .int et, .int wt, .int tm, .int sta, .int he, .int (f_X6_wrap ((Int32.toInt64 p1) - 1)), .int ov]))] H := hP
                                replace hD : va_D A [(c0, .inr (5, [.ref s0, .ref k0, .ref i0, .ref o0, .ref x0, .int et, .int wt, .int tm, .int sta, .int he, .int (f_X6_wrap ((Int32.toInt64 p1) - 1)), .int ov]))] := hD
                                refine lv_goto (tgt := 169) hx hb dX2_combine_166 (by decide) ?_
                                have ef : (f_X2_combine ac ov p0 p1) = ((f_X6_wrap ((Int32.toInt64 p1) - 1)), ov) := ((if_neg c_1).trans ((if_neg c_2).trans ((if_neg c_3).trans ((if_neg c_4).trans ((if_neg c_5).trans ((if_neg c_6).trans ((if_neg c_7).trans ((if_neg c_8).trans ((if_neg c_9).trans ((if_neg c_10).trans ((if_neg c_11).trans ((if_neg c_12).trans ((if_neg c_13).trans ((if_neg c_14).trans (if_pos c_15)))))))))))))))
                                exact gRetV F hr hlocks hK hP hD hS rfl (by rw [ef]) (Nat.le_of_ble_eq_true rfl) (Nat.le_of_ble_eq_true rfl) dX2_combine_169
                              · skip
                                have qc_1 : ¬ p0.toInt = 1 := lv_neT c_1 (by decide)
                                have qc_2 : ¬ p0.toInt = 2 := lv_neT c_2 (by decide)
                                have qc_3 : ¬ p0.toInt = 3 := lv_neT c_3 (by decide)
                                have qc_4 : ¬ p0.toInt = 4 := lv_neT c_4 (by decide)
                                have qc_5 : ¬ p0.toInt = 5 := lv_neT c_5 (by decide)
                                have qc_6 : ¬ p0.toInt = 6 := lv_neT c_6 (by decide)
                                have qc_7 : ¬ p0.toInt = 7 := lv_neT c_7 (by decide)
                                have qc_8 : ¬ p0.toInt = 8 := lv_neT c_8 (by decide)
                                have qc_9 : ¬ p0.toInt = 9 := lv_neT c_9 (by decide)
                                have qc_10 : ¬ p0.toInt = 10 := lv_neT c_10 (by decide)
                                have qc_11 : ¬ p0.toInt = 11 := lv_neT c_11 (by decide)
                                have qc_12 : ¬ p0.toInt = 12 := lv_neT c_12 (by decide)
                                have qc_13 : ¬ p0.toInt = 13 := lv_neT c_13 (by decide)
                                have qc_14 : ¬ p0.toInt = 14 := lv_neT c_14 (by decide)
                                have qc_15 : ¬ p0.toInt = 15 := lv_neT c_15 (by decide)
                                refine lv_tableOut (tgt := 169) hx hb dX2_combine_1 (by omega) (by decide) ?_
                                have ef : (f_X2_combine ac ov p0 p1) = (ac, ov) := ((if_neg c_1).trans ((if_neg c_2).trans ((if_neg c_3).trans ((if_neg c_4).trans ((if_neg c_5).trans ((if_neg c_6).trans ((if_neg c_7).trans ((if_neg c_8).trans ((if_neg c_9).trans ((if_neg c_10).trans ((if_neg c_11).trans ((if_neg c_12).trans ((if_neg c_13).trans ((if_neg c_14).trans (if_neg c_15)))))))))))))))
                                exact gRetV F hr hlocks hK hP hD hS rfl (by rw [ef]) (Nat.le_of_ble_eq_true rfl) (Nat.le_of_ble_eq_true rfl) dX2_combine_169
theorem okV_X2_combine : gOkV yX2_combine cX2_combine 3 none 2 := ⟨⟨k_im_X2_combine, k_se_X2_combine, k_in_X2, k_cd_X2_combine⟩, by decide, by decide, by decide +kernel⟩
def f_X2_perform (sta : Int32) (ac : Int32) (ov : Int32) (bits : Nat → Int32) (fi : Int32) (li : Int32) (rin : Nat → Int32) (fo : Int32) (lo : Int32) (rout : Nat → Int32) (p0 : Int32) (p1 : Int32) : Int32 × Int32 × Int32 × (Nat → Int32) × Int32 × Int32 × Int32 × (Nat → Int32) :=
  if p0 = 0 then
    (1, ac, ov, bits, fi, li, lo, rout)
  else
    if p0 = 1 then
      (sta, (f_X2_combine ac ov p0 (f_X5_wordAt bits p1)).1, (f_X2_combine ac ov p0 (f_X5_wordAt bits p1)).2, bits, fi, li, lo, rout)
    else
      if p0 = 2 then
        (sta, ac, ov, (f_X5_putWord bits p1 ac), fi, li, lo, rout)
      else
        if p0 = 3 then
          (sta, (f_X2_combine ac ov p0 (f_X5_wordAt bits p1)).1, (f_X2_combine ac ov p0 (f_X5_wordAt bits p1)).2, bits, fi, li, lo, rout)
        else
          if p0 = 4 then
            (sta, (f_X2_combine ac ov p0 (f_X5_wordAt bits p1)).1, (f_X2_combine ac ov p0 (f_X5_wordAt bits p1)).2, bits, fi, li, lo, rout)
          else
            if p0 = 5 then
              (sta, (f_X2_combine ac ov p0 (f_X5_wordAt bits p1)).1, (f_X2_combine ac ov p0 (f_X5_wordAt bits p1)).2, bits, fi, li, lo, rout)
            else
              if p0 = 6 then
                (sta, (f_X2_combine ac ov p0 (f_X5_wordAt bits p1)).1, (f_X2_combine ac ov p0 (f_X5_wordAt bits p1)).2, bits, fi, li, lo, rout)
              else
                if p0 = 7 then
                  (sta, (f_X2_combine ac ov p0 (f_X5_wordAt bits p1)).1, (f_X2_combine ac ov p0 (f_X5_wordAt bits p1)).2, bits, fi, li, lo, rout)
                else
                  if p0 = 8 then
                    (sta, (f_X6_wrap ((Int32.toInt64 ac) <<< ((Int32.toInt64 (f_X6_cycleOf p1)) &&& 63))), ov, bits, fi, li, lo, rout)
                  else
                    if p0 = 9 then
                      (sta, ((ac >>> ((f_X6_cycleOf p1) &&& 31)) : Int32), ov, bits, fi, li, lo, rout)
                    else
                      if p0 = 10 then
                        (sta, (f_X2_combine ac ov p0 (f_X5_wordAt bits p1)).1, (f_X2_combine ac ov p0 (f_X5_wordAt bits p1)).2, bits, fi, li, lo, rout)
                      else
                        if p0 = 11 then
                          (sta, (f_X2_combine ac ov p0 (f_X5_wordAt bits p1)).1, (f_X2_combine ac ov p0 (f_X5_wordAt bits p1)).2, bits, fi, li, lo, rout)
                        else
                          if p0 = 12 then
                            (sta, ac, 0, bits, fi, li, lo, rout)
                          else
                            if p0 = 13 then
                              (sta, (f_X4_removeFirst fi li rin).1, ov, bits, (f_X4_removeFirst fi li rin).2.1, (f_X4_removeFirst fi li rin).2.2, lo, rout)
                            else
                              if p0 = 14 then
                                (sta, ac, ov, bits, fi, li, (f_X4_addLast fo lo rout ac).1, (f_X4_addLast fo lo rout ac).2)
                              else
                                (sta, (f_X2_combine ac ov p0 (f_X5_wordAt bits p1)).1, (f_X2_combine ac ov p0 (f_X5_wordAt bits p1)).2, bits, fi, li, lo, rout)
set_option maxRecDepth 100000 in
set_option maxHeartbeats 4000000 in
theorem c_X2_perform (l : Launch) (G : gG) (c0 : Nat) (s0 : Nat) (k0 : Nat) (i0 : Nat) (o0 : Nat) (x0 : Nat) (et : Int32) (wt : Int32) (tm : Int32) (sta : Int32) (he : Int32) (ac : Int32) (ov : Int32) (s1 : Nat) (s2 : Nat) (s3 : Nat) (dr : Int32) (bits : Nat → Int32) (i1 : Nat) (fi : Int32) (li : Int32) (rin : Nat → Int32) (o1 : Nat) (fo : Int32) (lo : Int32) (rout : Nat → Int32) (p0 : Int32) (p1 : Int32) : gM l G yX2_perform cX2_perform 3 none { frames := 3, cells := 0, slots := 0, locals := 66 } [.ref c0, .int p0, .int p1] [(c0, .inr (5, [.ref s0, .ref k0, .ref i0, .ref o0, .ref x0, .int et, .int wt, .int tm, .int sta, .int he, .int ac, .int ov])), (s0, .inr (7, [.ref s1, .ref s2, .ref s3, .int dr])), (s1, .inl (G.2.1.1, 256, .inl bits)), (i0, .inr (6, [.ref i1, .int fi, .int li])), (i1, .inl (G.2.1.1, 64, .inl rin)), (o0, .inr (6, [.ref o1, .int fo, .int lo])), (o1, .inl (G.2.1.1, 64, .inl rout))] none [(c0, .inr (5, [.ref s0, .ref k0, .ref i0, .ref o0, .ref x0, .int et, .int wt, .int tm, .int ((f_X2_perform sta ac ov bits fi li rin fo lo rout p0 p1).1), .int he, .int ((f_X2_perform sta ac ov bits fi li rin fo lo rout p0 p1).2.1), .int ((f_X2_perform sta ac ov bits fi li rin fo lo rout p0 p1).2.2.1)])), (s0, .inr (7, [.ref s1, .ref s2, .ref s3, .int dr])), (s1, .inl (G.2.1.1, 256, .inl ((f_X2_perform sta ac ov bits fi li rin fo lo rout p0 p1).2.2.2.1))), (i0, .inr (6, [.ref i1, .int ((f_X2_perform sta ac ov bits fi li rin fo lo rout p0 p1).2.2.2.2.1), .int ((f_X2_perform sta ac ov bits fi li rin fo lo rout p0 p1).2.2.2.2.2.1)])), (i1, .inl (G.2.1.1, 64, .inl rin)), (o0, .inr (6, [.ref o1, .int fo, .int ((f_X2_perform sta ac ov bits fi li rin fo lo rout p0 p1).2.2.2.2.2.2.1)])), (o1, .inl (G.2.1.1, 64, .inl ((f_X2_perform sta ac ov bits fi li rin fo lo rout p0 p1).2.2.2.2.2.2.2)))] 0 0 := by
  refine gBegin (by decide +kernel) (Nat.le_of_ble_eq_true rfl) (fun p e s m args below meth c A F hr hlocks hname hN hK hP hD hA hS ls hl => ?_)
  obtain ⟨hx, hb, hml, hown, hts⟩ := id F
  replace hP : va_P G.1 vwCl [(c0, .inr (5, [.ref s0, .ref k0, .ref i0, .ref o0, .ref x0, .int et, .int wt, .int tm, .int sta, .int he, .int ac, .int ov])), (s0, .inr (7, [.ref s1, .ref s2, .ref s3, .int dr])), (s1, .inl (G.2.1.1, 256, .inl bits)), (i0, .inr (6, [.ref i1, .int fi, .int li])), (i1, .inl (G.2.1.1, 64, .inl rin)), (o0, .inr (6, [.ref o1, .int fo, .int lo])), (o1, .inl (G.2.1.1, 64, .inl rout))] s.heap := hP
  replace hl : lv_has ls 3 [(0, .ref c0), (1, .int p0), (2, .int p1)] := hl
  refine lv_iload_n hx hb dX2_perform_0 rfl (lv_at hl 1 rfl) ?_
  rcases (Decidable.em (p0 = 0)) with c_1 | c_1
  · skip
    refine lv_tableIn (off := 75) (tgt := 76) hx hb dX2_perform_1 (by rw [c_1]; decide) (by rw [c_1]; decide) (by rw [c_1]; decide) (by decide) ?_
    refine lv_aload_n hx hb dX2_perform_76 rfl (lv_at hl 0 rfl) ?_
    refine lv_iconst (v := 1) hx hb dX2_perform_77 (by decide) ?_
    refine va_put (D := G.1) (ci := 5) (v := .int 1) (ty := .int) (C := RX2) (T := TX2) (N := 12) hx hb hts in_X2 tyX2 tyX2_ok nmX2 hown hK hP hD hS 0 rfl rfl 8 (by decide) (hts _ k_fl_X2_39) (fun _ h9 => h9) rfl (by decide +kernel) rfl rfl (Nat.le_of_ble_eq_true rfl) dX2_perform_78 (fun H locs hP hD hS => ?_)
    replace hP : va_P G.1 vwCl [(c0, .inr (5, [.ref s0, .ref k0, .ref i0, .ref o0, .ref x0, .int et, .int wt, .int tm, .int 1, .int he, .int ac, .int ov])), (s0, .inr (7, [.ref s1, .ref s2, .ref s3, .int dr])), (s1, .inl (G.2.1.1, 256, .inl bits)), (i0, .inr (6, [.ref i1, .int fi, .int li])), (i1, .inl (G.2.1.1, 64, .inl rin)), (o0, .inr (6, [.ref o1, .int fo, .int lo])), (o1, .inl (G.2.1.1, 64, .inl rout))] H := hP
    replace hD : va_D A [(c0, .inr (5, [.ref s0, .ref k0, .ref i0, .ref o0, .ref x0, .int et, .int wt, .int tm, .int 1, .int he, .int ac, .int ov])), (s0, .inr (7, [.ref s1, .ref s2, .ref s3, .int dr])), (s1, .inl (G.2.1.1, 256, .inl bits)), (i0, .inr (6, [.ref i1, .int fi, .int li])), (i1, .inl (G.2.1.1, 64, .inl rin)), (o0, .inr (6, [.ref o1, .int fo, .int lo])), (o1, .inl (G.2.1.1, 64, .inl rout))] := hD
    refine lv_goto (tgt := 184) hx hb dX2_perform_81 (by decide) ?_
    have ef : (f_X2_perform sta ac ov bits fi li rin fo lo rout p0 p1) = (1, ac, ov, bits, fi, li, lo, rout) := (if_pos c_1)
    exact gRetV F hr hlocks hK hP hD hS rfl (by rw [ef]) (Nat.le_of_ble_eq_true rfl) (Nat.le_of_ble_eq_true rfl) dX2_perform_184
  · skip
    rcases (Decidable.em (p0 = 1)) with c_2 | c_2
    · skip
      refine lv_tableIn (off := 170) (tgt := 171) hx hb dX2_perform_1 (by rw [c_2]; decide) (by rw [c_2]; decide) (by rw [c_2]; decide) (by decide) ?_
      refine lv_aload_n hx hb dX2_perform_171 rfl (lv_at hl 0 rfl) ?_
      refine lv_iload_n hx hb dX2_perform_172 rfl (lv_at hl 1 rfl) ?_
      refine lv_aload_n hx hb dX2_perform_173 rfl (lv_at hl 0 rfl) ?_
      refine va_get (D := G.1) (ci := 5) (v := .ref s0) (C := RX2) (T := TX2) (N := 12) hx hb hts in_X2 hown hK hP 0 rfl rfl 0 (by decide) (hts _ k_fl_X2_12) (fun _ h9 => h9) rfl dX2_perform_174 ?_
      refine lv_iload_n hx hb dX2_perform_177 rfl (lv_at hl 2 rfl) ?_
      refine gV (As := [.int p1]) (rest := [.int p0, .ref c0]) (wr := [(c0, .inr (5, [.ref s0, .ref k0, .ref i0, .ref o0, .ref x0, .int et, .int wt, .int tm, .int sta, .int he, .int ac, .int ov])), (i0, .inr (6, [.ref i1, .int fi, .int li])), (i1, .inl (G.2.1.1, 64, .inl rin)), (o0, .inr (6, [.ref o1, .int fo, .int lo])), (o1, .inl (G.2.1.1, 64, .inl rout))]) (ws' := [(c0, .inr (5, [.ref s0, .ref k0, .ref i0, .ref o0, .ref x0, .int et, .int wt, .int tm, .int sta, .int he, .int ac, .int ov])), (s0, .inr (7, [.ref s1, .ref s2, .ref s3, .int dr])), (s1, .inl (G.2.1.1, 256, .inl bits)), (i0, .inr (6, [.ref i1, .int fi, .int li])), (i1, .inl (G.2.1.1, 64, .inl rin)), (o0, .inr (6, [.ref o1, .int fo, .int lo])), (o1, .inl (G.2.1.1, 64, .inl rout))]) F (c_X5_wordAt l G s0 s1 s2 s3 bits dr p1) okV_X5_wordAt k_ml_X2_56 rfl rfl ⟨Nat.le_of_ble_eq_true rfl, Nat.le_of_ble_eq_true rfl⟩ hN hK hP hD hS hA [1, 2] [0, 3, 4, 5, 6] [0, 5, 6, 1, 2, 3, 4] (by decide) rfl rfl (by decide) (by decide) (by decide) rfl (q0 := 1) rfl rfl rfl rfl hl.1 (Nat.le_of_ble_eq_true rfl) dX2_perform_178 ⟨Nat.le_refl _, Nat.le_refl _⟩ (fun H locs hP hD hS => ?_)
      refine gV (As := [.int p0, .int (f_X5_wordAt bits p1)]) (rest := []) (wr := [(s0, .inr (7, [.ref s1, .ref s2, .ref s3, .int dr])), (s1, .inl (G.2.1.1, 256, .inl bits)), (i0, .inr (6, [.ref i1, .int fi, .int li])), (i1, .inl (G.2.1.1, 64, .inl rin)), (o0, .inr (6, [.ref o1, .int fo, .int lo])), (o1, .inl (G.2.1.1, 64, .inl rout))]) (ws' := [(c0, .inr (5, [.ref s0, .ref k0, .ref i0, .ref o0, .ref x0, .int et, .int wt, .int tm, .int sta, .int he, .int ((f_X2_combine ac ov p0 (f_X5_wordAt bits p1)).1), .int ((f_X2_combine ac ov p0 (f_X5_wordAt bits p1)).2)])), (s0, .inr (7, [.ref s1, .ref s2, .ref s3, .int dr])), (s1, .inl (G.2.1.1, 256, .inl bits)), (i0, .inr (6, [.ref i1, .int fi, .int li])), (i1, .inl (G.2.1.1, 64, .inl rin)), (o0, .inr (6, [.ref o1, .int fo, .int lo])), (o1, .inl (G.2.1.1, 64, .inl rout))]) F (c_X2_combine l G c0 s0 k0 i0 o0 x0 et wt tm sta he ac ov p0 (f_X5_wordAt bits p1)) okV_X2_combine k_ml_X2_119 rfl rfl ⟨Nat.le_of_ble_eq_true rfl, Nat.le_of_ble_eq_true rfl⟩ hN hK hP hD hS hA [0] [1, 2, 3, 4, 5, 6] [6, 0, 1, 2, 3, 4, 5] (by decide) rfl rfl (by decide) (by decide) (by decide) rfl (q0 := 0) rfl rfl rfl rfl hl.1 (Nat.le_of_ble_eq_true rfl) dX2_perform_181 ⟨Nat.le_refl _, Nat.le_refl _⟩ (fun H locs hP hD hS => ?_)
      have ef : (f_X2_perform sta ac ov bits fi li rin fo lo rout p0 p1) = (sta, (f_X2_combine ac ov p0 (f_X5_wordAt bits p1)).1, (f_X2_combine ac ov p0 (f_X5_wordAt bits p1)).2, bits, fi, li, lo, rout) := ((if_neg c_1).trans (if_pos c_2))
      exact gRetV F hr hlocks hK hP hD hS rfl (by rw [ef]) (Nat.le_of_ble_eq_true rfl) (Nat.le_of_ble_eq_true rfl) dX2_perform_184
    · skip
      rcases (Decidable.em (p0 = 2)) with c_3 | c_3
      · skip
        refine lv_tableIn (off := 83) (tgt := 84) hx hb dX2_perform_1 (by rw [c_3]; decide) (by rw [c_3]; decide) (by rw [c_3]; decide) (by decide) ?_
        refine lv_aload_n hx hb dX2_perform_84 rfl (lv_at hl 0 rfl) ?_
        refine va_get (D := G.1) (ci := 5) (v := .ref s0) (C := RX2) (T := TX2) (N := 12) hx hb hts in_X2 hown hK hP 0 rfl rfl 0 (by decide) (hts _ k_fl_X2_12) (fun _ h9 => h9) rfl dX2_perform_85 ?_
        refine lv_iload_n hx hb dX2_perform_88 rfl (lv_at hl 2 rfl) ?_
        refine lv_aload_n hx hb dX2_perform_89 rfl (lv_at hl 0 rfl) ?_
        refine va_get (D := G.1) (ci := 5) (v := .int ac) (C := RX2) (T := TX2) (N := 12) hx hb hts in_X2 hown hK hP 0 rfl rfl 10 (by decide) (hts _ k_fl_X2_89) (fun _ h9 => h9) rfl dX2_perform_90 ?_
        refine gV (As := [.int p1, .int ac]) (rest := []) (wr := [(c0, .inr (5, [.ref s0, .ref k0, .ref i0, .ref o0, .ref x0, .int et, .int wt, .int tm, .int sta, .int he, .int ac, .int ov])), (i0, .inr (6, [.ref i1, .int fi, .int li])), (i1, .inl (G.2.1.1, 64, .inl rin)), (o0, .inr (6, [.ref o1, .int fo, .int lo])), (o1, .inl (G.2.1.1, 64, .inl rout))]) (ws' := [(c0, .inr (5, [.ref s0, .ref k0, .ref i0, .ref o0, .ref x0, .int et, .int wt, .int tm, .int sta, .int he, .int ac, .int ov])), (s0, .inr (7, [.ref s1, .ref s2, .ref s3, .int dr])), (s1, .inl (G.2.1.1, 256, .inl (f_X5_putWord bits p1 ac))), (i0, .inr (6, [.ref i1, .int fi, .int li])), (i1, .inl (G.2.1.1, 64, .inl rin)), (o0, .inr (6, [.ref o1, .int fo, .int lo])), (o1, .inl (G.2.1.1, 64, .inl rout))]) F (c_X5_putWord l G s0 s1 s2 s3 bits dr p1 ac) okV_X5_putWord k_ml_X2_92 rfl rfl ⟨Nat.le_of_ble_eq_true rfl, Nat.le_of_ble_eq_true rfl⟩ hN hK hP hD hS hA [1, 2] [0, 3, 4, 5, 6] [0, 5, 6, 1, 2, 3, 4] (by decide) rfl rfl (by decide) (by decide) (by decide) rfl (q0 := 1) rfl rfl rfl rfl hl.1 (Nat.le_of_ble_eq_true rfl) dX2_perform_93 ⟨Nat.le_refl _, Nat.le_refl _⟩ (fun H locs hP hD hS => ?_)
        refine lv_goto (tgt := 184) hx hb dX2_perform_96 (by decide) ?_
        have ef : (f_X2_perform sta ac ov bits fi li rin fo lo rout p0 p1) = (sta, ac, ov, (f_X5_putWord bits p1 ac), fi, li, lo, rout) := ((if_neg c_1).trans ((if_neg c_2).trans (if_pos c_3)))
        exact gRetV F hr hlocks hK hP hD hS rfl (by rw [ef]) (Nat.le_of_ble_eq_true rfl) (Nat.le_of_ble_eq_true rfl) dX2_perform_184
      · skip
        rcases (Decidable.em (p0 = 3)) with c_4 | c_4
        · skip
          refine lv_tableIn (off := 170) (tgt := 171) hx hb dX2_perform_1 (by rw [c_4]; decide) (by rw [c_4]; decide) (by rw [c_4]; decide) (by decide) ?_
          refine lv_aload_n hx hb dX2_perform_171 rfl (lv_at hl 0 rfl) ?_
          refine lv_iload_n hx hb dX2_perform_172 rfl (lv_at hl 1 rfl) ?_
          refine lv_aload_n hx hb dX2_perform_173 rfl (lv_at hl 0 rfl) ?_
          refine va_get (D := G.1) (ci := 5) (v := .ref s0) (C := RX2) (T := TX2) (N := 12) hx hb hts in_X2 hown hK hP 0 rfl rfl 0 (by decide) (hts _ k_fl_X2_12) (fun _ h9 => h9) rfl dX2_perform_174 ?_
          refine lv_iload_n hx hb dX2_perform_177 rfl (lv_at hl 2 rfl) ?_
          refine gV (As := [.int p1]) (rest := [.int p0, .ref c0]) (wr := [(c0, .inr (5, [.ref s0, .ref k0, .ref i0, .ref o0, .ref x0, .int et, .int wt, .int tm, .int sta, .int he, .int ac, .int ov])), (i0, .inr (6, [.ref i1, .int fi, .int li])), (i1, .inl (G.2.1.1, 64, .inl rin)), (o0, .inr (6, [.ref o1, .int fo, .int lo])), (o1, .inl (G.2.1.1, 64, .inl rout))]) (ws' := [(c0, .inr (5, [.ref s0, .ref k0, .ref i0, .ref o0, .ref x0, .int et, .int wt, .int tm, .int sta, .int he, .int ac, .int ov])), (s0, .inr (7, [.ref s1, .ref s2, .ref s3, .int dr])), (s1, .inl (G.2.1.1, 256, .inl bits)), (i0, .inr (6, [.ref i1, .int fi, .int li])), (i1, .inl (G.2.1.1, 64, .inl rin)), (o0, .inr (6, [.ref o1, .int fo, .int lo])), (o1, .inl (G.2.1.1, 64, .inl rout))]) F (c_X5_wordAt l G s0 s1 s2 s3 bits dr p1) okV_X5_wordAt k_ml_X2_56 rfl rfl ⟨Nat.le_of_ble_eq_true rfl, Nat.le_of_ble_eq_true rfl⟩ hN hK hP hD hS hA [1, 2] [0, 3, 4, 5, 6] [0, 5, 6, 1, 2, 3, 4] (by decide) rfl rfl (by decide) (by decide) (by decide) rfl (q0 := 1) rfl rfl rfl rfl hl.1 (Nat.le_of_ble_eq_true rfl) dX2_perform_178 ⟨Nat.le_refl _, Nat.le_refl _⟩ (fun H locs hP hD hS => ?_)
          refine gV (As := [.int p0, .int (f_X5_wordAt bits p1)]) (rest := []) (wr := [(s0, .inr (7, [.ref s1, .ref s2, .ref s3, .int dr])), (s1, .inl (G.2.1.1, 256, .inl bits)), (i0, .inr (6, [.ref i1, .int fi, .int li])), (i1, .inl (G.2.1.1, 64, .inl rin)), (o0, .inr (6, [.ref o1, .int fo, .int lo])), (o1, .inl (G.2.1.1, 64, .inl rout))]) (ws' := [(c0, .inr (5, [.ref s0, .ref k0, .ref i0, .ref o0, .ref x0, .int et, .int wt, .int tm, .int sta, .int he, .int ((f_X2_combine ac ov p0 (f_X5_wordAt bits p1)).1), .int ((f_X2_combine ac ov p0 (f_X5_wordAt bits p1)).2)])), (s0, .inr (7, [.ref s1, .ref s2, .ref s3, .int dr])), (s1, .inl (G.2.1.1, 256, .inl bits)), (i0, .inr (6, [.ref i1, .int fi, .int li])), (i1, .inl (G.2.1.1, 64, .inl rin)), (o0, .inr (6, [.ref o1, .int fo, .int lo])), (o1, .inl (G.2.1.1, 64, .inl rout))]) F (c_X2_combine l G c0 s0 k0 i0 o0 x0 et wt tm sta he ac ov p0 (f_X5_wordAt bits p1)) okV_X2_combine k_ml_X2_119 rfl rfl ⟨Nat.le_of_ble_eq_true rfl, Nat.le_of_ble_eq_true rfl⟩ hN hK hP hD hS hA [0] [1, 2, 3, 4, 5, 6] [6, 0, 1, 2, 3, 4, 5] (by decide) rfl rfl (by decide) (by decide) (by decide) rfl (q0 := 0) rfl rfl rfl rfl hl.1 (Nat.le_of_ble_eq_true rfl) dX2_perform_181 ⟨Nat.le_refl _, Nat.le_refl _⟩ (fun H locs hP hD hS => ?_)
          have ef : (f_X2_perform sta ac ov bits fi li rin fo lo rout p0 p1) = (sta, (f_X2_combine ac ov p0 (f_X5_wordAt bits p1)).1, (f_X2_combine ac ov p0 (f_X5_wordAt bits p1)).2, bits, fi, li, lo, rout) := ((if_neg c_1).trans ((if_neg c_2).trans ((if_neg c_3).trans (if_pos c_4))))
          exact gRetV F hr hlocks hK hP hD hS rfl (by rw [ef]) (Nat.le_of_ble_eq_true rfl) (Nat.le_of_ble_eq_true rfl) dX2_perform_184
        · skip
          rcases (Decidable.em (p0 = 4)) with c_5 | c_5
          · skip
            refine lv_tableIn (off := 170) (tgt := 171) hx hb dX2_perform_1 (by rw [c_5]; decide) (by rw [c_5]; decide) (by rw [c_5]; decide) (by decide) ?_
            refine lv_aload_n hx hb dX2_perform_171 rfl (lv_at hl 0 rfl) ?_
            refine lv_iload_n hx hb dX2_perform_172 rfl (lv_at hl 1 rfl) ?_
            refine lv_aload_n hx hb dX2_perform_173 rfl (lv_at hl 0 rfl) ?_
            refine va_get (D := G.1) (ci := 5) (v := .ref s0) (C := RX2) (T := TX2) (N := 12) hx hb hts in_X2 hown hK hP 0 rfl rfl 0 (by decide) (hts _ k_fl_X2_12) (fun _ h9 => h9) rfl dX2_perform_174 ?_
            refine lv_iload_n hx hb dX2_perform_177 rfl (lv_at hl 2 rfl) ?_
            refine gV (As := [.int p1]) (rest := [.int p0, .ref c0]) (wr := [(c0, .inr (5, [.ref s0, .ref k0, .ref i0, .ref o0, .ref x0, .int et, .int wt, .int tm, .int sta, .int he, .int ac, .int ov])), (i0, .inr (6, [.ref i1, .int fi, .int li])), (i1, .inl (G.2.1.1, 64, .inl rin)), (o0, .inr (6, [.ref o1, .int fo, .int lo])), (o1, .inl (G.2.1.1, 64, .inl rout))]) (ws' := [(c0, .inr (5, [.ref s0, .ref k0, .ref i0, .ref o0, .ref x0, .int et, .int wt, .int tm, .int sta, .int he, .int ac, .int ov])), (s0, .inr (7, [.ref s1, .ref s2, .ref s3, .int dr])), (s1, .inl (G.2.1.1, 256, .inl bits)), (i0, .inr (6, [.ref i1, .int fi, .int li])), (i1, .inl (G.2.1.1, 64, .inl rin)), (o0, .inr (6, [.ref o1, .int fo, .int lo])), (o1, .inl (G.2.1.1, 64, .inl rout))]) F (c_X5_wordAt l G s0 s1 s2 s3 bits dr p1) okV_X5_wordAt k_ml_X2_56 rfl rfl ⟨Nat.le_of_ble_eq_true rfl, Nat.le_of_ble_eq_true rfl⟩ hN hK hP hD hS hA [1, 2] [0, 3, 4, 5, 6] [0, 5, 6, 1, 2, 3, 4] (by decide) rfl rfl (by decide) (by decide) (by decide) rfl (q0 := 1) rfl rfl rfl rfl hl.1 (Nat.le_of_ble_eq_true rfl) dX2_perform_178 ⟨Nat.le_refl _, Nat.le_refl _⟩ (fun H locs hP hD hS => ?_)
            refine gV (As := [.int p0, .int (f_X5_wordAt bits p1)]) (rest := []) (wr := [(s0, .inr (7, [.ref s1, .ref s2, .ref s3, .int dr])), (s1, .inl (G.2.1.1, 256, .inl bits)), (i0, .inr (6, [.ref i1, .int fi, .int li])), (i1, .inl (G.2.1.1, 64, .inl rin)), (o0, .inr (6, [.ref o1, .int fo, .int lo])), (o1, .inl (G.2.1.1, 64, .inl rout))]) (ws' := [(c0, .inr (5, [.ref s0, .ref k0, .ref i0, .ref o0, .ref x0, .int et, .int wt, .int tm, .int sta, .int he, .int ((f_X2_combine ac ov p0 (f_X5_wordAt bits p1)).1), .int ((f_X2_combine ac ov p0 (f_X5_wordAt bits p1)).2)])), (s0, .inr (7, [.ref s1, .ref s2, .ref s3, .int dr])), (s1, .inl (G.2.1.1, 256, .inl bits)), (i0, .inr (6, [.ref i1, .int fi, .int li])), (i1, .inl (G.2.1.1, 64, .inl rin)), (o0, .inr (6, [.ref o1, .int fo, .int lo])), (o1, .inl (G.2.1.1, 64, .inl rout))]) F (c_X2_combine l G c0 s0 k0 i0 o0 x0 et wt tm sta he ac ov p0 (f_X5_wordAt bits p1)) okV_X2_combine k_ml_X2_119 rfl rfl ⟨Nat.le_of_ble_eq_true rfl, Nat.le_of_ble_eq_true rfl⟩ hN hK hP hD hS hA [0] [1, 2, 3, 4, 5, 6] [6, 0, 1, 2, 3, 4, 5] (by decide) rfl rfl (by decide) (by decide) (by decide) rfl (q0 := 0) rfl rfl rfl rfl hl.1 (Nat.le_of_ble_eq_true rfl) dX2_perform_181 ⟨Nat.le_refl _, Nat.le_refl _⟩ (fun H locs hP hD hS => ?_)
            have ef : (f_X2_perform sta ac ov bits fi li rin fo lo rout p0 p1) = (sta, (f_X2_combine ac ov p0 (f_X5_wordAt bits p1)).1, (f_X2_combine ac ov p0 (f_X5_wordAt bits p1)).2, bits, fi, li, lo, rout) := ((if_neg c_1).trans ((if_neg c_2).trans ((if_neg c_3).trans ((if_neg c_4).trans (if_pos c_5)))))
            exact gRetV F hr hlocks hK hP hD hS rfl (by rw [ef]) (Nat.le_of_ble_eq_true rfl) (Nat.le_of_ble_eq_true rfl) dX2_perform_184
          · skip
            rcases (Decidable.em (p0 = 5)) with c_6 | c_6
            · skip
              refine lv_tableIn (off := 170) (tgt := 171) hx hb dX2_perform_1 (by rw [c_6]; decide) (by rw [c_6]; decide) (by rw [c_6]; decide) (by decide) ?_
              refine lv_aload_n hx hb dX2_perform_171 rfl (lv_at hl 0 rfl) ?_
              refine lv_iload_n hx hb dX2_perform_172 rfl (lv_at hl 1 rfl) ?_
              refine lv_aload_n hx hb dX2_perform_173 rfl (lv_at hl 0 rfl) ?_
              refine va_get (D := G.1) (ci := 5) (v := .ref s0) (C := RX2) (T := TX2) (N := 12) hx hb hts in_X2 hown hK hP 0 rfl rfl 0 (by decide) (hts _ k_fl_X2_12) (fun _ h9 => h9) rfl dX2_perform_174 ?_
              refine lv_iload_n hx hb dX2_perform_177 rfl (lv_at hl 2 rfl) ?_
              refine gV (As := [.int p1]) (rest := [.int p0, .ref c0]) (wr := [(c0, .inr (5, [.ref s0, .ref k0, .ref i0, .ref o0, .ref x0, .int et, .int wt, .int tm, .int sta, .int he, .int ac, .int ov])), (i0, .inr (6, [.ref i1, .int fi, .int li])), (i1, .inl (G.2.1.1, 64, .inl rin)), (o0, .inr (6, [.ref o1, .int fo, .int lo])), (o1, .inl (G.2.1.1, 64, .inl rout))]) (ws' := [(c0, .inr (5, [.ref s0, .ref k0, .ref i0, .ref o0, .ref x0, .int et, .int wt, .int tm, .int sta, .int he, .int ac, .int ov])), (s0, .inr (7, [.ref s1, .ref s2, .ref s3, .int dr])), (s1, .inl (G.2.1.1, 256, .inl bits)), (i0, .inr (6, [.ref i1, .int fi, .int li])), (i1, .inl (G.2.1.1, 64, .inl rin)), (o0, .inr (6, [.ref o1, .int fo, .int lo])), (o1, .inl (G.2.1.1, 64, .inl rout))]) F (c_X5_wordAt l G s0 s1 s2 s3 bits dr p1) okV_X5_wordAt k_ml_X2_56 rfl rfl ⟨Nat.le_of_ble_eq_true rfl, Nat.le_of_ble_eq_true rfl⟩ hN hK hP hD hS hA [1, 2] [0, 3, 4, 5, 6] [0, 5, 6, 1, 2, 3, 4] (by decide) rfl rfl (by decide) (by decide) (by decide) rfl (q0 := 1) rfl rfl rfl rfl hl.1 (Nat.le_of_ble_eq_true rfl) dX2_perform_178 ⟨Nat.le_refl _, Nat.le_refl _⟩ (fun H locs hP hD hS => ?_)
              refine gV (As := [.int p0, .int (f_X5_wordAt bits p1)]) (rest := []) (wr := [(s0, .inr (7, [.ref s1, .ref s2, .ref s3, .int dr])), (s1, .inl (G.2.1.1, 256, .inl bits)), (i0, .inr (6, [.ref i1, .int fi, .int li])), (i1, .inl (G.2.1.1, 64, .inl rin)), (o0, .inr (6, [.ref o1, .int fo, .int lo])), (o1, .inl (G.2.1.1, 64, .inl rout))]) (ws' := [(c0, .inr (5, [.ref s0, .ref k0, .ref i0, .ref o0, .ref x0, .int et, .int wt, .int tm, .int sta, .int he, .int ((f_X2_combine ac ov p0 (f_X5_wordAt bits p1)).1), .int ((f_X2_combine ac ov p0 (f_X5_wordAt bits p1)).2)])), (s0, .inr (7, [.ref s1, .ref s2, .ref s3, .int dr])), (s1, .inl (G.2.1.1, 256, .inl bits)), (i0, .inr (6, [.ref i1, .int fi, .int li])), (i1, .inl (G.2.1.1, 64, .inl rin)), (o0, .inr (6, [.ref o1, .int fo, .int lo])), (o1, .inl (G.2.1.1, 64, .inl rout))]) F (c_X2_combine l G c0 s0 k0 i0 o0 x0 et wt tm sta he ac ov p0 (f_X5_wordAt bits p1)) okV_X2_combine k_ml_X2_119 rfl rfl ⟨Nat.le_of_ble_eq_true rfl, Nat.le_of_ble_eq_true rfl⟩ hN hK hP hD hS hA [0] [1, 2, 3, 4, 5, 6] [6, 0, 1, 2, 3, 4, 5] (by decide) rfl rfl (by decide) (by decide) (by decide) rfl (q0 := 0) rfl rfl rfl rfl hl.1 (Nat.le_of_ble_eq_true rfl) dX2_perform_181 ⟨Nat.le_refl _, Nat.le_refl _⟩ (fun H locs hP hD hS => ?_)
              have ef : (f_X2_perform sta ac ov bits fi li rin fo lo rout p0 p1) = (sta, (f_X2_combine ac ov p0 (f_X5_wordAt bits p1)).1, (f_X2_combine ac ov p0 (f_X5_wordAt bits p1)).2, bits, fi, li, lo, rout) := ((if_neg c_1).trans ((if_neg c_2).trans ((if_neg c_3).trans ((if_neg c_4).trans ((if_neg c_5).trans (if_pos c_6))))))
              exact gRetV F hr hlocks hK hP hD hS rfl (by rw [ef]) (Nat.le_of_ble_eq_true rfl) (Nat.le_of_ble_eq_true rfl) dX2_perform_184
            · skip
              rcases (Decidable.em (p0 = 6)) with c_7 | c_7
              · skip
                refine lv_tableIn (off := 170) (tgt := 171) hx hb dX2_perform_1 (by rw [c_7]; decide) (by rw [c_7]; decide) (by rw [c_7]; decide) (by decide) ?_
                refine lv_aload_n hx hb dX2_perform_171 rfl (lv_at hl 0 rfl) ?_
                refine lv_iload_n hx hb dX2_perform_172 rfl (lv_at hl 1 rfl) ?_
                refine lv_aload_n hx hb dX2_perform_173 rfl (lv_at hl 0 rfl) ?_
                refine va_get (D := G.1) (ci := 5) (v := .ref s0) (C := RX2) (T := TX2) (N := 12) hx hb hts in_X2 hown hK hP 0 rfl rfl 0 (by decide) (hts _ k_fl_X2_12) (fun _ h9 => h9) rfl dX2_perform_174 ?_
                refine lv_iload_n hx hb dX2_perform_177 rfl (lv_at hl 2 rfl) ?_
                refine gV (As := [.int p1]) (rest := [.int p0, .ref c0]) (wr := [(c0, .inr (5, [.ref s0, .ref k0, .ref i0, .ref o0, .ref x0, .int et, .int wt, .int tm, .int sta, .int he, .int ac, .int ov])), (i0, .inr (6, [.ref i1, .int fi, .int li])), (i1, .inl (G.2.1.1, 64, .inl rin)), (o0, .inr (6, [.ref o1, .int fo, .int lo])), (o1, .inl (G.2.1.1, 64, .inl rout))]) (ws' := [(c0, .inr (5, [.ref s0, .ref k0, .ref i0, .ref o0, .ref x0, .int et, .int wt, .int tm, .int sta, .int he, .int ac, .int ov])), (s0, .inr (7, [.ref s1, .ref s2, .ref s3, .int dr])), (s1, .inl (G.2.1.1, 256, .inl bits)), (i0, .inr (6, [.ref i1, .int fi, .int li])), (i1, .inl (G.2.1.1, 64, .inl rin)), (o0, .inr (6, [.ref o1, .int fo, .int lo])), (o1, .inl (G.2.1.1, 64, .inl rout))]) F (c_X5_wordAt l G s0 s1 s2 s3 bits dr p1) okV_X5_wordAt k_ml_X2_56 rfl rfl ⟨Nat.le_of_ble_eq_true rfl, Nat.le_of_ble_eq_true rfl⟩ hN hK hP hD hS hA [1, 2] [0, 3, 4, 5, 6] [0, 5, 6, 1, 2, 3, 4] (by decide) rfl rfl (by decide) (by decide) (by decide) rfl (q0 := 1) rfl rfl rfl rfl hl.1 (Nat.le_of_ble_eq_true rfl) dX2_perform_178 ⟨Nat.le_refl _, Nat.le_refl _⟩ (fun H locs hP hD hS => ?_)
                refine gV (As := [.int p0, .int (f_X5_wordAt bits p1)]) (rest := []) (wr := [(s0, .inr (7, [.ref s1, .ref s2, .ref s3, .int dr])), (s1, .inl (G.2.1.1, 256, .inl bits)), (i0, .inr (6, [.ref i1, .int fi, .int li])), (i1, .inl (G.2.1.1, 64, .inl rin)), (o0, .inr (6, [.ref o1, .int fo, .int lo])), (o1, .inl (G.2.1.1, 64, .inl rout))]) (ws' := [(c0, .inr (5, [.ref s0, .ref k0, .ref i0, .ref o0, .ref x0, .int et, .int wt, .int tm, .int sta, .int he, .int ((f_X2_combine ac ov p0 (f_X5_wordAt bits p1)).1), .int ((f_X2_combine ac ov p0 (f_X5_wordAt bits p1)).2)])), (s0, .inr (7, [.ref s1, .ref s2, .ref s3, .int dr])), (s1, .inl (G.2.1.1, 256, .inl bits)), (i0, .inr (6, [.ref i1, .int fi, .int li])), (i1, .inl (G.2.1.1, 64, .inl rin)), (o0, .inr (6, [.ref o1, .int fo, .int lo])), (o1, .inl (G.2.1.1, 64, .inl rout))]) F (c_X2_combine l G c0 s0 k0 i0 o0 x0 et wt tm sta he ac ov p0 (f_X5_wordAt bits p1)) okV_X2_combine k_ml_X2_119 rfl rfl ⟨Nat.le_of_ble_eq_true rfl, Nat.le_of_ble_eq_true rfl⟩ hN hK hP hD hS hA [0] [1, 2, 3, 4, 5, 6] [6, 0, 1, 2, 3, 4, 5] (by decide) rfl rfl (by decide) (by decide) (by decide) rfl (q0 := 0) rfl rfl rfl rfl hl.1 (Nat.le_of_ble_eq_true rfl) dX2_perform_181 ⟨Nat.le_refl _, Nat.le_refl _⟩ (fun H locs hP hD hS => ?_)
                have ef : (f_X2_perform sta ac ov bits fi li rin fo lo rout p0 p1) = (sta, (f_X2_combine ac ov p0 (f_X5_wordAt bits p1)).1, (f_X2_combine ac ov p0 (f_X5_wordAt bits p1)).2, bits, fi, li, lo, rout) := ((if_neg c_1).trans ((if_neg c_2).trans ((if_neg c_3).trans ((if_neg c_4).trans ((if_neg c_5).trans ((if_neg c_6).trans (if_pos c_7)))))))
                exact gRetV F hr hlocks hK hP hD hS rfl (by rw [ef]) (Nat.le_of_ble_eq_true rfl) (Nat.le_of_ble_eq_true rfl) dX2_perform_184
              · skip
                rcases (Decidable.em (p0 = 7)) with c_8 | c_8
                · skip
                  refine lv_tableIn (off := 170) (tgt := 171) hx hb dX2_perform_1 (by rw [c_8]; decide) (by rw [c_8]; decide) (by rw [c_8]; decide) (by decide) ?_
                  refine lv_aload_n hx hb dX2_perform_171 rfl (lv_at hl 0 rfl) ?_
                  refine lv_iload_n hx hb dX2_perform_172 rfl (lv_at hl 1 rfl) ?_
                  refine lv_aload_n hx hb dX2_perform_173 rfl (lv_at hl 0 rfl) ?_
                  refine va_get (D := G.1) (ci := 5) (v := .ref s0) (C := RX2) (T := TX2) (N := 12) hx hb hts in_X2 hown hK hP 0 rfl rfl 0 (by decide) (hts _ k_fl_X2_12) (fun _ h9 => h9) rfl dX2_perform_174 ?_
                  refine lv_iload_n hx hb dX2_perform_177 rfl (lv_at hl 2 rfl) ?_
                  refine gV (As := [.int p1]) (rest := [.int p0, .ref c0]) (wr := [(c0, .inr (5, [.ref s0, .ref k0, .ref i0, .ref o0, .ref x0, .int et, .int wt, .int tm, .int sta, .int he, .int ac, .int ov])), (i0, .inr (6, [.ref i1, .int fi, .int li])), (i1, .inl (G.2.1.1, 64, .inl rin)), (o0, .inr (6, [.ref o1, .int fo, .int lo])), (o1, .inl (G.2.1.1, 64, .inl rout))]) (ws' := [(c0, .inr (5, [.ref s0, .ref k0, .ref i0, .ref o0, .ref x0, .int et, .int wt, .int tm, .int sta, .int he, .int ac, .int ov])), (s0, .inr (7, [.ref s1, .ref s2, .ref s3, .int dr])), (s1, .inl (G.2.1.1, 256, .inl bits)), (i0, .inr (6, [.ref i1, .int fi, .int li])), (i1, .inl (G.2.1.1, 64, .inl rin)), (o0, .inr (6, [.ref o1, .int fo, .int lo])), (o1, .inl (G.2.1.1, 64, .inl rout))]) F (c_X5_wordAt l G s0 s1 s2 s3 bits dr p1) okV_X5_wordAt k_ml_X2_56 rfl rfl ⟨Nat.le_of_ble_eq_true rfl, Nat.le_of_ble_eq_true rfl⟩ hN hK hP hD hS hA [1, 2] [0, 3, 4, 5, 6] [0, 5, 6, 1, 2, 3, 4] (by decide) rfl rfl (by decide) (by decide) (by decide) rfl (q0 := 1) rfl rfl rfl rfl hl.1 (Nat.le_of_ble_eq_true rfl) dX2_perform_178 ⟨Nat.le_refl _, Nat.le_refl _⟩ (fun H locs hP hD hS => ?_)
                  refine gV (As := [.int p0, .int (f_X5_wordAt bits p1)]) (rest := []) (wr := [(s0, .inr (7, [.ref s1, .ref s2, .ref s3, .int dr])), (s1, .inl (G.2.1.1, 256, .inl bits)), (i0, .inr (6, [.ref i1, .int fi, .int li])), (i1, .inl (G.2.1.1, 64, .inl rin)), (o0, .inr (6, [.ref o1, .int fo, .int lo])), (o1, .inl (G.2.1.1, 64, .inl rout))]) (ws' := [(c0, .inr (5, [.ref s0, .ref k0, .ref i0, .ref o0, .ref x0, .int et, .int wt, .int tm, .int sta, .int he, .int ((f_X2_combine ac ov p0 (f_X5_wordAt bits p1)).1), .int ((f_X2_combine ac ov p0 (f_X5_wordAt bits p1)).2)])), (s0, .inr (7, [.ref s1, .ref s2, .ref s3, .int dr])), (s1, .inl (G.2.1.1, 256, .inl bits)), (i0, .inr (6, [.ref i1, .int fi, .int li])), (i1, .inl (G.2.1.1, 64, .inl rin)), (o0, .inr (6, [.ref o1, .int fo, .int lo])), (o1, .inl (G.2.1.1, 64, .inl rout))]) F (c_X2_combine l G c0 s0 k0 i0 o0 x0 et wt tm sta he ac ov p0 (f_X5_wordAt bits p1)) okV_X2_combine k_ml_X2_119 rfl rfl ⟨Nat.le_of_ble_eq_true rfl, Nat.le_of_ble_eq_true rfl⟩ hN hK hP hD hS hA [0] [1, 2, 3, 4, 5, 6] [6, 0, 1, 2, 3, 4, 5] (by decide) rfl rfl (by decide) (by decide) (by decide) rfl (q0 := 0) rfl rfl rfl rfl hl.1 (Nat.le_of_ble_eq_true rfl) dX2_perform_181 ⟨Nat.le_refl _, Nat.le_refl _⟩ (fun H locs hP hD hS => ?_)
                  have ef : (f_X2_perform sta ac ov bits fi li rin fo lo rout p0 p1) = (sta, (f_X2_combine ac ov p0 (f_X5_wordAt bits p1)).1, (f_X2_combine ac ov p0 (f_X5_wordAt bits p1)).2, bits, fi, li, lo, rout) := ((if_neg c_1).trans ((if_neg c_2).trans ((if_neg c_3).trans ((if_neg c_4).trans ((if_neg c_5).trans ((if_neg c_6).trans ((if_neg c_7).trans (if_pos c_8))))))))
                  exact gRetV F hr hlocks hK hP hD hS rfl (by rw [ef]) (Nat.le_of_ble_eq_true rfl) (Nat.le_of_ble_eq_true rfl) dX2_perform_184
                · skip
                  rcases (Decidable.em (p0 = 8)) with c_9 | c_9
                  · skip
                    refine lv_tableIn (off := 98) (tgt := 99) hx hb dX2_perform_1 (by rw [c_9]; decide) (by rw [c_9]; decide) (by rw [c_9]; decide) (by decide) ?_
                    refine lv_aload_n hx hb dX2_perform_99 rfl (lv_at hl 0 rfl) ?_
                    refine lv_aload_n hx hb dX2_perform_100 rfl (lv_at hl 0 rfl) ?_
                    refine va_get (D := G.1) (ci := 5) (v := .int ac) (C := RX2) (T := TX2) (N := 12) hx hb hts in_X2 hown hK hP 0 rfl rfl 10 (by decide) (hts _ k_fl_X2_89) (fun _ h9 => h9) rfl dX2_perform_101 ?_
                    refine lv_i2l (v := (Int32.toInt64 ac)) hx hb dX2_perform_104 rfl ?_
                    refine lv_iload_n hx hb dX2_perform_105 rfl (lv_at hl 2 rfl) ?_
                    refine gSN (As := [.int p1]) (rest := [.long (Int32.toInt64 ac), .ref c0]) (wr := [(c0, .inr (5, [.ref s0, .ref k0, .ref i0, .ref o0, .ref x0, .int et, .int wt, .int tm, .int sta, .int he, .int ac, .int ov])), (s0, .inr (7, [.ref s1, .ref s2, .ref s3, .int dr])), (s1, .inl (G.2.1.1, 256, .inl bits)), (i0, .inr (6, [.ref i1, .int fi, .int li])), (i1, .inl (G.2.1.1, 64, .inl rin)), (o0, .inr (6, [.ref o1, .int fo, .int lo])), (o1, .inl (G.2.1.1, 64, .inl rout))]) (ws' := [(c0, .inr (5, [.ref s0, .ref k0, .ref i0, .ref o0, .ref x0, .int et, .int wt, .int tm, .int sta, .int he, .int ac, .int ov])), (s0, .inr (7, [.ref s1, .ref s2, .ref s3, .int dr])), (s1, .inl (G.2.1.1, 256, .inl bits)), (i0, .inr (6, [.ref i1, .int fi, .int li])), (i1, .inl (G.2.1.1, 64, .inl rin)), (o0, .inr (6, [.ref o1, .int fo, .int lo])), (o1, .inl (G.2.1.1, 64, .inl rout))]) F (c_X6_cycleOf l G p1) okS_X6_cycleOf kn_X2_105 rfl rfl ⟨Nat.le_of_ble_eq_true rfl, Nat.le_of_ble_eq_true rfl⟩ hN hK hP hD hS hA [] [0, 1, 2, 3, 4, 5, 6] [0, 1, 2, 3, 4, 5, 6] (by decide) rfl rfl (by decide) (by decide) (by decide) rfl rfl rfl hl.1 (Nat.le_of_ble_eq_true rfl) dX2_perform_106 ⟨Nat.le_refl _, Nat.le_refl _⟩ (fun H locs hP hD hS => ?_)
                    refine lv_lshl (v := ((Int32.toInt64 ac) <<< ((Int32.toInt64 (f_X6_cycleOf p1)) &&& 63))) hx hb dX2_perform_109 rfl ?_
                    refine gSN (As := [.long ((Int32.toInt64 ac) <<< ((Int32.toInt64 (f_X6_cycleOf p1)) &&& 63))]) (rest := [.ref c0]) (wr := [(c0, .inr (5, [.ref s0, .ref k0, .ref i0, .ref o0, .ref x0, .int et, .int wt, .int tm, .int sta, .int he, .int ac, .int ov])), (s0, .inr (7, [.ref s1, .ref s2, .ref s3, .int dr])), (s1, .inl (G.2.1.1, 256, .inl bits)), (i0, .inr (6, [.ref i1, .int fi, .int li])), (i1, .inl (G.2.1.1, 64, .inl rin)), (o0, .inr (6, [.ref o1, .int fo, .int lo])), (o1, .inl (G.2.1.1, 64, .inl rout))]) (ws' := [(c0, .inr (5, [.ref s0, .ref k0, .ref i0, .ref o0, .ref x0, .int et, .int wt, .int tm, .int sta, .int he, .int ac, .int ov])), (s0, .inr (7, [.ref s1, .ref s2, .ref s3, .int dr])), (s1, .inl (G.2.1.1, 256, .inl bits)), (i0, .inr (6, [.ref i1, .int fi, .int li])), (i1, .inl (G.2.1.1, 64, .inl rin)), (o0, .inr (6, [.ref o1, .int fo, .int lo])), (o1, .inl (G.2.1.1, 64, .inl rout))]) F (c_X6_wrap l G ((Int32.toInt64 ac) <<< ((Int32.toInt64 (f_X6_cycleOf p1)) &&& 63))) okS_X6_wrap kn_X2_108 rfl rfl ⟨Nat.le_of_ble_eq_true rfl, Nat.le_of_ble_eq_true rfl⟩ hN hK hP hD hS hA [] [0, 1, 2, 3, 4, 5, 6] [0, 1, 2, 3, 4, 5, 6] (by decide) rfl rfl (by decide) (by decide) (by decide) rfl rfl rfl hl.1 (Nat.le_of_ble_eq_true rfl) dX2_perform_110 ⟨Nat.le_refl _, Nat.le_refl _⟩ (fun H locs hP hD hS => ?_)
                    refine va_put (D := G.1) (ci := 5) (v := .int (f_X6_wrap ((Int32.toInt64 ac) <<< ((Int32.toInt64 (f_X6_cycleOf p1)) &&& 63)))) (ty := .int) (C := RX2) (T := TX2) (N := 12) hx hb hts in_X2 tyX2 tyX2_ok nmX2 hown hK hP hD hS 0 rfl rfl 10 (by decide) (hts _ k_fl_X2_89) (fun _ h9 => h9) rfl (by decide +kernel) rfl rfl (Nat.le_of_ble_eq_true rfl) dX2_perform_113 (fun H locs hP hD hS => ?_)
                    replace hP : va_P G.1 vwCl [(c0, .inr (5, [.ref s0, .ref k0, .ref i0, .ref o0, .ref x0, .int et, .int wt, .int tm, .int sta, .int he, .int (f_X6_wrap ((Int32.toInt64 ac) <<< ((Int32.toInt64 (f_X6_cycleOf p1)) &&& 63))), .int ov])), (s0, .inr (7, [.ref s1, .ref s2, .ref s3, .int dr])), (s1, .inl (G.2.1.1, 256, .inl bits)), (i0, .inr (6, [.ref i1, .int fi, .int li])), (i1, .inl (G.2.1.1, 64, .inl rin)), (o0, .inr (6, [.ref o1, .int fo, .int lo])), (o1, .inl (G.2.1.1, 64, .inl rout))] H := hP
                    replace hD : va_D A [(c0, .inr (5, [.ref s0, .ref k0, .ref i0, .ref o0, .ref x0, .int et, .int wt, .int tm, .int sta, .int he, .int (f_X6_wrap ((Int32.toInt64 ac) <<< ((Int32.toInt64 (f_X6_cycleOf p1)) &&& 63))), .int ov])), (s0, .inr (7, [.ref s1, .ref s2, .ref s3, .int dr])), (s1, .inl (G.2.1.1, 256, .inl bits)), (i0, .inr (6, [.ref i1, .int fi, .int li])), (i1, .inl (G.2.1.1, 64, .inl rin)), (o0, .inr (6, [.ref o1, .int fo, .int lo])), (o1, .inl (G.2.1.1, 64, .inl rout))] := hD
                    refine lv_goto (tgt := 184) hx hb dX2_perform_116 (by decide) ?_
                    have ef : (f_X2_perform sta ac ov bits fi li rin fo lo rout p0 p1) = (sta, (f_X6_wrap ((Int32.toInt64 ac) <<< ((Int32.toInt64 (f_X6_cycleOf p1)) &&& 63))), ov, bits, fi, li, lo, rout) := ((if_neg c_1).trans ((if_neg c_2).trans ((if_neg c_3).trans ((if_neg c_4).trans ((if_neg c_5).trans ((if_neg c_6).trans ((if_neg c_7).trans ((if_neg c_8).trans (if_pos c_9)))))))))
                    exact gRetV F hr hlocks hK hP hD hS rfl (by rw [ef]) (Nat.le_of_ble_eq_true rfl) (Nat.le_of_ble_eq_true rfl) dX2_perform_184
                  · skip
                    rcases (Decidable.em (p0 = 9)) with c_10 | c_10
                    · skip
                      refine lv_tableIn (off := 118) (tgt := 119) hx hb dX2_perform_1 (by rw [c_10]; decide) (by rw [c_10]; decide) (by rw [c_10]; decide) (by decide) ?_
                      refine lv_aload_n hx hb dX2_perform_119 rfl (lv_at hl 0 rfl) ?_
                      refine lv_aload_n hx hb dX2_perform_120 rfl (lv_at hl 0 rfl) ?_
                      refine va_get (D := G.1) (ci := 5) (v := .int ac) (C := RX2) (T := TX2) (N := 12) hx hb hts in_X2 hown hK hP 0 rfl rfl 10 (by decide) (hts _ k_fl_X2_89) (fun _ h9 => h9) rfl dX2_perform_121 ?_
                      refine lv_iload_n hx hb dX2_perform_124 rfl (lv_at hl 2 rfl) ?_
                      refine gSN (As := [.int p1]) (rest := [.int ac, .ref c0]) (wr := [(c0, .inr (5, [.ref s0, .ref k0, .ref i0, .ref o0, .ref x0, .int et, .int wt, .int tm, .int sta, .int he, .int ac, .int ov])), (s0, .inr (7, [.ref s1, .ref s2, .ref s3, .int dr])), (s1, .inl (G.2.1.1, 256, .inl bits)), (i0, .inr (6, [.ref i1, .int fi, .int li])), (i1, .inl (G.2.1.1, 64, .inl rin)), (o0, .inr (6, [.ref o1, .int fo, .int lo])), (o1, .inl (G.2.1.1, 64, .inl rout))]) (ws' := [(c0, .inr (5, [.ref s0, .ref k0, .ref i0, .ref o0, .ref x0, .int et, .int wt, .int tm, .int sta, .int he, .int ac, .int ov])), (s0, .inr (7, [.ref s1, .ref s2, .ref s3, .int dr])), (s1, .inl (G.2.1.1, 256, .inl bits)), (i0, .inr (6, [.ref i1, .int fi, .int li])), (i1, .inl (G.2.1.1, 64, .inl rin)), (o0, .inr (6, [.ref o1, .int fo, .int lo])), (o1, .inl (G.2.1.1, 64, .inl rout))]) F (c_X6_cycleOf l G p1) okS_X6_cycleOf kn_X2_105 rfl rfl ⟨Nat.le_of_ble_eq_true rfl, Nat.le_of_ble_eq_true rfl⟩ hN hK hP hD hS hA [] [0, 1, 2, 3, 4, 5, 6] [0, 1, 2, 3, 4, 5, 6] (by decide) rfl rfl (by decide) (by decide) (by decide) rfl rfl rfl hl.1 (Nat.le_of_ble_eq_true rfl) dX2_perform_125 ⟨Nat.le_refl _, Nat.le_refl _⟩ (fun H locs hP hD hS => ?_)
                      refine lv_ishr hx hb dX2_perform_128 ?_
                      refine va_put (D := G.1) (ci := 5) (v := .int ((ac >>> ((f_X6_cycleOf p1) &&& 31)) : Int32)) (ty := .int) (C := RX2) (T := TX2) (N := 12) hx hb hts in_X2 tyX2 tyX2_ok nmX2 hown hK hP hD hS 0 rfl rfl 10 (by decide) (hts _ k_fl_X2_89) (fun _ h9 => h9) rfl (by decide +kernel) rfl rfl (Nat.le_of_ble_eq_true rfl) dX2_perform_129 (fun H locs hP hD hS => ?_)
                      replace hP : va_P G.1 vwCl [(c0, .inr (5, [.ref s0, .ref k0, .ref i0, .ref o0, .ref x0, .int et, .int wt, .int tm, .int sta, .int he, .int ((ac >>> ((f_X6_cycleOf p1) &&& 31)) : Int32), .int ov])), (s0, .inr (7, [.ref s1, .ref s2, .ref s3, .int dr])), (s1, .inl (G.2.1.1, 256, .inl bits)), (i0, .inr (6, [.ref i1, .int fi, .int li])), (i1, .inl (G.2.1.1, 64, .inl rin)), (o0, .inr (6, [.ref o1, .int fo, .int lo])), (o1, .inl (G.2.1.1, 64, .inl rout))] H := hP
                      replace hD : va_D A [(c0, .inr (5, [.ref s0, .ref k0, .ref i0, .ref o0, .ref x0, .int et, .int wt, .int tm, .int sta, .int he, .int ((ac >>> ((f_X6_cycleOf p1) &&& 31)) : Int32), .int ov])), (s0, .inr (7, [.ref s1, .ref s2, .ref s3, .int dr])), (s1, .inl (G.2.1.1, 256, .inl bits)), (i0, .inr (6, [.ref i1, .int fi, .int li])), (i1, .inl (G.2.1.1, 64, .inl rin)), (o0, .inr (6, [.ref o1, .int fo, .int lo])), (o1, .inl (G.2.1.1, 64, .inl rout))] := hD
                      refine lv_goto (tgt := 184) hx hb dX2_perform_132 (by decide) ?_
                      have ef : (f_X2_perform sta ac ov bits fi li rin fo lo rout p0 p1) = (sta, ((ac >>> ((f_X6_cycleOf p1) &&& 31)) : Int32), ov, bits, fi, li, lo, rout) := ((if_neg c_1).trans ((if_neg c_2).trans ((if_neg c_3).trans ((if_neg c_4).trans ((if_neg c_5).trans ((if_neg c_6).trans ((if_neg c_7).trans ((if_neg c_8).trans ((if_neg c_9).trans (if_pos c_10))))))))))
                      exact gRetV F hr hlocks hK hP hD hS rfl (by rw [ef]) (Nat.le_of_ble_eq_true rfl) (Nat.le_of_ble_eq_true rfl) dX2_perform_184
                    · skip
                      rcases (Decidable.em (p0 = 10)) with c_11 | c_11
                      · skip
                        refine lv_tableIn (off := 170) (tgt := 171) hx hb dX2_perform_1 (by rw [c_11]; decide) (by rw [c_11]; decide) (by rw [c_11]; decide) (by decide) ?_
                        refine lv_aload_n hx hb dX2_perform_171 rfl (lv_at hl 0 rfl) ?_
                        refine lv_iload_n hx hb dX2_perform_172 rfl (lv_at hl 1 rfl) ?_
                        refine lv_aload_n hx hb dX2_perform_173 rfl (lv_at hl 0 rfl) ?_
                        refine va_get (D := G.1) (ci := 5) (v := .ref s0) (C := RX2) (T := TX2) (N := 12) hx hb hts in_X2 hown hK hP 0 rfl rfl 0 (by decide) (hts _ k_fl_X2_12) (fun _ h9 => h9) rfl dX2_perform_174 ?_
                        refine lv_iload_n hx hb dX2_perform_177 rfl (lv_at hl 2 rfl) ?_
                        refine gV (As := [.int p1]) (rest := [.int p0, .ref c0]) (wr := [(c0, .inr (5, [.ref s0, .ref k0, .ref i0, .ref o0, .ref x0, .int et, .int wt, .int tm, .int sta, .int he, .int ac, .int ov])), (i0, .inr (6, [.ref i1, .int fi, .int li])), (i1, .inl (G.2.1.1, 64, .inl rin)), (o0, .inr (6, [.ref o1, .int fo, .int lo])), (o1, .inl (G.2.1.1, 64, .inl rout))]) (ws' := [(c0, .inr (5, [.ref s0, .ref k0, .ref i0, .ref o0, .ref x0, .int et, .int wt, .int tm, .int sta, .int he, .int ac, .int ov])), (s0, .inr (7, [.ref s1, .ref s2, .ref s3, .int dr])), (s1, .inl (G.2.1.1, 256, .inl bits)), (i0, .inr (6, [.ref i1, .int fi, .int li])), (i1, .inl (G.2.1.1, 64, .inl rin)), (o0, .inr (6, [.ref o1, .int fo, .int lo])), (o1, .inl (G.2.1.1, 64, .inl rout))]) F (c_X5_wordAt l G s0 s1 s2 s3 bits dr p1) okV_X5_wordAt k_ml_X2_56 rfl rfl ⟨Nat.le_of_ble_eq_true rfl, Nat.le_of_ble_eq_true rfl⟩ hN hK hP hD hS hA [1, 2] [0, 3, 4, 5, 6] [0, 5, 6, 1, 2, 3, 4] (by decide) rfl rfl (by decide) (by decide) (by decide) rfl (q0 := 1) rfl rfl rfl rfl hl.1 (Nat.le_of_ble_eq_true rfl) dX2_perform_178 ⟨Nat.le_refl _, Nat.le_refl _⟩ (fun H locs hP hD hS => ?_)
                        refine gV (As := [.int p0, .int (f_X5_wordAt bits p1)]) (rest := []) (wr := [(s0, .inr (7, [.ref s1, .ref s2, .ref s3, .int dr])), (s1, .inl (G.2.1.1, 256, .inl bits)), (i0, .inr (6, [.ref i1, .int fi, .int li])), (i1, .inl (G.2.1.1, 64, .inl rin)), (o0, .inr (6, [.ref o1, .int fo, .int lo])), (o1, .inl (G.2.1.1, 64, .inl rout))]) (ws' := [(c0, .inr (5, [.ref s0, .ref k0, .ref i0, .ref o0, .ref x0, .int et, .int wt, .int tm, .int sta, .int he, .int ((f_X2_combine ac ov p0 (f_X5_wordAt bits p1)).1), .int ((f_X2_combine ac ov p0 (f_X5_wordAt bits p1)).2)])), (s0, .inr (7, [.ref s1, .ref s2, .ref s3, .int dr])), (s1, .inl (G.2.1.1, 256, .inl bits)), (i0, .inr (6, [.ref i1, .int fi, .int li])), (i1, .inl (G.2.1.1, 64, .inl rin)), (o0, .inr (6, [.ref o1, .int fo, .int lo])), (o1, .inl (G.2.1.1, 64, .inl rout))]) F (c_X2_combine l G c0 s0 k0 i0 o0 x0 et wt tm sta he ac ov p0 (f_X5_wordAt bits p1)) okV_X2_combine k_ml_X2_119 rfl rfl ⟨Nat.le_of_ble_eq_true rfl, Nat.le_of_ble_eq_true rfl⟩ hN hK hP hD hS hA [0] [1, 2, 3, 4, 5, 6] [6, 0, 1, 2, 3, 4, 5] (by decide) rfl rfl (by decide) (by decide) (by decide) rfl (q0 := 0) rfl rfl rfl rfl hl.1 (Nat.le_of_ble_eq_true rfl) dX2_perform_181 ⟨Nat.le_refl _, Nat.le_refl _⟩ (fun H locs hP hD hS => ?_)
                        have ef : (f_X2_perform sta ac ov bits fi li rin fo lo rout p0 p1) = (sta, (f_X2_combine ac ov p0 (f_X5_wordAt bits p1)).1, (f_X2_combine ac ov p0 (f_X5_wordAt bits p1)).2, bits, fi, li, lo, rout) := ((if_neg c_1).trans ((if_neg c_2).trans ((if_neg c_3).trans ((if_neg c_4).trans ((if_neg c_5).trans ((if_neg c_6).trans ((if_neg c_7).trans ((if_neg c_8).trans ((if_neg c_9).trans ((if_neg c_10).trans (if_pos c_11)))))))))))
                        exact gRetV F hr hlocks hK hP hD hS rfl (by rw [ef]) (Nat.le_of_ble_eq_true rfl) (Nat.le_of_ble_eq_true rfl) dX2_perform_184
                      · skip
                        rcases (Decidable.em (p0 = 11)) with c_12 | c_12
                        · skip
                          refine lv_tableIn (off := 170) (tgt := 171) hx hb dX2_perform_1 (by rw [c_12]; decide) (by rw [c_12]; decide) (by rw [c_12]; decide) (by decide) ?_
                          refine lv_aload_n hx hb dX2_perform_171 rfl (lv_at hl 0 rfl) ?_
                          refine lv_iload_n hx hb dX2_perform_172 rfl (lv_at hl 1 rfl) ?_
                          refine lv_aload_n hx hb dX2_perform_173 rfl (lv_at hl 0 rfl) ?_
                          refine va_get (D := G.1) (ci := 5) (v := .ref s0) (C := RX2) (T := TX2) (N := 12) hx hb hts in_X2 hown hK hP 0 rfl rfl 0 (by decide) (hts _ k_fl_X2_12) (fun _ h9 => h9) rfl dX2_perform_174 ?_
                          refine lv_iload_n hx hb dX2_perform_177 rfl (lv_at hl 2 rfl) ?_
                          refine gV (As := [.int p1]) (rest := [.int p0, .ref c0]) (wr := [(c0, .inr (5, [.ref s0, .ref k0, .ref i0, .ref o0, .ref x0, .int et, .int wt, .int tm, .int sta, .int he, .int ac, .int ov])), (i0, .inr (6, [.ref i1, .int fi, .int li])), (i1, .inl (G.2.1.1, 64, .inl rin)), (o0, .inr (6, [.ref o1, .int fo, .int lo])), (o1, .inl (G.2.1.1, 64, .inl rout))]) (ws' := [(c0, .inr (5, [.ref s0, .ref k0, .ref i0, .ref o0, .ref x0, .int et, .int wt, .int tm, .int sta, .int he, .int ac, .int ov])), (s0, .inr (7, [.ref s1, .ref s2, .ref s3, .int dr])), (s1, .inl (G.2.1.1, 256, .inl bits)), (i0, .inr (6, [.ref i1, .int fi, .int li])), (i1, .inl (G.2.1.1, 64, .inl rin)), (o0, .inr (6, [.ref o1, .int fo, .int lo])), (o1, .inl (G.2.1.1, 64, .inl rout))]) F (c_X5_wordAt l G s0 s1 s2 s3 bits dr p1) okV_X5_wordAt k_ml_X2_56 rfl rfl ⟨Nat.le_of_ble_eq_true rfl, Nat.le_of_ble_eq_true rfl⟩ hN hK hP hD hS hA [1, 2] [0, 3, 4, 5, 6] [0, 5, 6, 1, 2, 3, 4] (by decide) rfl rfl (by decide) (by decide) (by decide) rfl (q0 := 1) rfl rfl rfl rfl hl.1 (Nat.le_of_ble_eq_true rfl) dX2_perform_178 ⟨Nat.le_refl _, Nat.le_refl _⟩ (fun H locs hP hD hS => ?_)
                          refine gV (As := [.int p0, .int (f_X5_wordAt bits p1)]) (rest := []) (wr := [(s0, .inr (7, [.ref s1, .ref s2, .ref s3, .int dr])), (s1, .inl (G.2.1.1, 256, .inl bits)), (i0, .inr (6, [.ref i1, .int fi, .int li])), (i1, .inl (G.2.1.1, 64, .inl rin)), (o0, .inr (6, [.ref o1, .int fo, .int lo])), (o1, .inl (G.2.1.1, 64, .inl rout))]) (ws' := [(c0, .inr (5, [.ref s0, .ref k0, .ref i0, .ref o0, .ref x0, .int et, .int wt, .int tm, .int sta, .int he, .int ((f_X2_combine ac ov p0 (f_X5_wordAt bits p1)).1), .int ((f_X2_combine ac ov p0 (f_X5_wordAt bits p1)).2)])), (s0, .inr (7, [.ref s1, .ref s2, .ref s3, .int dr])), (s1, .inl (G.2.1.1, 256, .inl bits)), (i0, .inr (6, [.ref i1, .int fi, .int li])), (i1, .inl (G.2.1.1, 64, .inl rin)), (o0, .inr (6, [.ref o1, .int fo, .int lo])), (o1, .inl (G.2.1.1, 64, .inl rout))]) F (c_X2_combine l G c0 s0 k0 i0 o0 x0 et wt tm sta he ac ov p0 (f_X5_wordAt bits p1)) okV_X2_combine k_ml_X2_119 rfl rfl ⟨Nat.le_of_ble_eq_true rfl, Nat.le_of_ble_eq_true rfl⟩ hN hK hP hD hS hA [0] [1, 2, 3, 4, 5, 6] [6, 0, 1, 2, 3, 4, 5] (by decide) rfl rfl (by decide) (by decide) (by decide) rfl (q0 := 0) rfl rfl rfl rfl hl.1 (Nat.le_of_ble_eq_true rfl) dX2_perform_181 ⟨Nat.le_refl _, Nat.le_refl _⟩ (fun H locs hP hD hS => ?_)
                          have ef : (f_X2_perform sta ac ov bits fi li rin fo lo rout p0 p1) = (sta, (f_X2_combine ac ov p0 (f_X5_wordAt bits p1)).1, (f_X2_combine ac ov p0 (f_X5_wordAt bits p1)).2, bits, fi, li, lo, rout) := ((if_neg c_1).trans ((if_neg c_2).trans ((if_neg c_3).trans ((if_neg c_4).trans ((if_neg c_5).trans ((if_neg c_6).trans ((if_neg c_7).trans ((if_neg c_8).trans ((if_neg c_9).trans ((if_neg c_10).trans ((if_neg c_11).trans (if_pos c_12))))))))))))
                          exact gRetV F hr hlocks hK hP hD hS rfl (by rw [ef]) (Nat.le_of_ble_eq_true rfl) (Nat.le_of_ble_eq_true rfl) dX2_perform_184
                        · skip
                          rcases (Decidable.em (p0 = 12)) with c_13 | c_13
                          · skip
                            refine lv_tableIn (off := 134) (tgt := 135) hx hb dX2_perform_1 (by rw [c_13]; decide) (by rw [c_13]; decide) (by rw [c_13]; decide) (by decide) ?_
                            refine lv_aload_n hx hb dX2_perform_135 rfl (lv_at hl 0 rfl) ?_
                            refine lv_iconst (v := 0) hx hb dX2_perform_136 (by decide) ?_
                            refine va_put (D := G.1) (ci := 5) (v := .int 0) (ty := .boolean) (C := RX2) (T := TX2) (N := 12) hx hb hts in_X2 tyX2 tyX2_ok nmX2 hown hK hP hD hS 0 rfl rfl 11 (by decide) (hts _ k_fl_X2_101) (fun _ h9 => h9) rfl (by decide +kernel) rfl rfl (Nat.le_of_ble_eq_true rfl) dX2_perform_137 (fun H locs hP hD hS => ?_)
                            replace hP : va_P G.1 vwCl [(c0, .inr (5, [.ref s0, .ref k0, .ref i0, .ref o0, .ref x0, .int et, .int wt, .int tm, .int sta, .int he, .int ac, .int 0])), (s0, .inr (7, [.ref s1, .ref s2, .ref s3, .int dr])), (s1, .inl (G.2.1.1, 256, .inl bits)), (i0, .inr (6, [.ref i1, .int fi, .int li])), (i1, .inl (G.2.1.1, 64, .inl rin)), (o0, .inr (6, [.ref o1, .int fo, .int lo])), (o1, .inl (G.2.1.1, 64, .inl rout))] H := hP
                            replace hD : va_D A [(c0, .inr (5, [.ref s0, .ref k0, .ref i0, .ref o0, .ref x0, .int et, .int wt, .int tm, .int sta, .int he, .int ac, .int 0])), (s0, .inr (7, [.ref s1, .ref s2, .ref s3, .int dr])), (s1, .inl (G.2.1.1, 256, .inl bits)), (i0, .inr (6, [.ref i1, .int fi, .int li])), (i1, .inl (G.2.1.1, 64, .inl rin)), (o0, .inr (6, [.ref o1, .int fo, .int lo])), (o1, .inl (G.2.1.1, 64, .inl rout))] := hD
                            refine lv_goto (tgt := 184) hx hb dX2_perform_140 (by decide) ?_
                            have ef : (f_X2_perform sta ac ov bits fi li rin fo lo rout p0 p1) = (sta, ac, 0, bits, fi, li, lo, rout) := ((if_neg c_1).trans ((if_neg c_2).trans ((if_neg c_3).trans ((if_neg c_4).trans ((if_neg c_5).trans ((if_neg c_6).trans ((if_neg c_7).trans ((if_neg c_8).trans ((if_neg c_9).trans ((if_neg c_10).trans ((if_neg c_11).trans ((if_neg c_12).trans (if_pos c_13)))))))))))))
                            exact gRetV F hr hlocks hK hP hD hS rfl (by rw [ef]) (Nat.le_of_ble_eq_true rfl) (Nat.le_of_ble_eq_true rfl) dX2_perform_184
                          · skip
                            rcases (Decidable.em (p0 = 13)) with c_14 | c_14
                            · skip
                              refine lv_tableIn (off := 142) (tgt := 143) hx hb dX2_perform_1 (by rw [c_14]; decide) (by rw [c_14]; decide) (by rw [c_14]; decide) (by decide) ?_
                              refine lv_aload_n hx hb dX2_perform_143 rfl (lv_at hl 0 rfl) ?_
                              refine lv_aload_n hx hb dX2_perform_144 rfl (lv_at hl 0 rfl) ?_
                              refine va_get (D := G.1) (ci := 5) (v := .ref i0) (C := RX2) (T := TX2) (N := 12) hx hb hts in_X2 hown hK hP 0 rfl rfl 2 (by decide) (hts _ k_fl_X2_28) (fun _ h9 => h9) rfl dX2_perform_145 ?_
                              refine gV (As := []) (rest := [.ref c0]) (wr := [(c0, .inr (5, [.ref s0, .ref k0, .ref i0, .ref o0, .ref x0, .int et, .int wt, .int tm, .int sta, .int he, .int ac, .int ov])), (s0, .inr (7, [.ref s1, .ref s2, .ref s3, .int dr])), (s1, .inl (G.2.1.1, 256, .inl bits)), (o0, .inr (6, [.ref o1, .int fo, .int lo])), (o1, .inl (G.2.1.1, 64, .inl rout))]) (ws' := [(c0, .inr (5, [.ref s0, .ref k0, .ref i0, .ref o0, .ref x0, .int et, .int wt, .int tm, .int sta, .int he, .int ac, .int ov])), (s0, .inr (7, [.ref s1, .ref s2, .ref s3, .int dr])), (s1, .inl (G.2.1.1, 256, .inl bits)), (i0, .inr (6, [.ref i1, .int ((f_X4_removeFirst fi li rin).2.1), .int ((f_X4_removeFirst fi li rin).2.2)])), (i1, .inl (G.2.1.1, 64, .inl rin)), (o0, .inr (6, [.ref o1, .int fo, .int lo])), (o1, .inl (G.2.1.1, 64, .inl rout))]) F (c_X4_removeFirst l G i0 i1 fi li rin) okV_X4_removeFirst k_ml_X2_112 rfl rfl ⟨Nat.le_of_ble_eq_true rfl, Nat.le_of_ble_eq_true rfl⟩ hN hK hP hD hS hA [3, 4] [0, 1, 2, 5, 6] [0, 1, 2, 5, 6, 3, 4] (by decide) rfl rfl (by decide) (by decide) (by decide) rfl (q0 := 3) rfl rfl rfl rfl hl.1 (Nat.le_of_ble_eq_true rfl) dX2_perform_148 ⟨Nat.le_refl _, Nat.le_refl _⟩ (fun H locs hP hD hS => ?_)
                              refine va_put (D := G.1) (ci := 5) (v := .int ((f_X4_removeFirst fi li rin).1)) (ty := .int) (C := RX2) (T := TX2) (N := 12) hx hb hts in_X2 tyX2 tyX2_ok nmX2 hown hK hP hD hS 0 rfl rfl 10 (by decide) (hts _ k_fl_X2_89) (fun _ h9 => h9) rfl (by decide +kernel) rfl rfl (Nat.le_of_ble_eq_true rfl) dX2_perform_151 (fun H locs hP hD hS => ?_)
                              replace hP : va_P G.1 vwCl [(c0, .inr (5, [.ref s0, .ref k0, .ref i0, .ref o0, .ref x0, .int et, .int wt, .int tm, .int sta, .int he, .int ((f_X4_removeFirst fi li rin).1), .int ov])), (s0, .inr (7, [.ref s1, .ref s2, .ref s3, .int dr])), (s1, .inl (G.2.1.1, 256, .inl bits)), (i0, .inr (6, [.ref i1, .int ((f_X4_removeFirst fi li rin).2.1), .int ((f_X4_removeFirst fi li rin).2.2)])), (i1, .inl (G.2.1.1, 64, .inl rin)), (o0, .inr (6, [.ref o1, .int fo, .int lo])), (o1, .inl (G.2.1.1, 64, .inl rout))] H := hP
                              replace hD : va_D A [(c0, .inr (5, [.ref s0, .ref k0, .ref i0, .ref o0, .ref x0, .int et, .int wt, .int tm, .int sta, .int he, .int ((f_X4_removeFirst fi li rin).1), .int ov])), (s0, .inr (7, [.ref s1, .ref s2, .ref s3, .int dr])), (s1, .inl (G.2.1.1, 256, .inl bits)), (i0, .inr (6, [.ref i1, .int ((f_X4_removeFirst fi li rin).2.1), .int ((f_X4_removeFirst fi li rin).2.2)])), (i1, .inl (G.2.1.1, 64, .inl rin)), (o0, .inr (6, [.ref o1, .int fo, .int lo])), (o1, .inl (G.2.1.1, 64, .inl rout))] := hD
                              refine lv_goto (tgt := 184) hx hb dX2_perform_154 (by decide) ?_
                              have ef : (f_X2_perform sta ac ov bits fi li rin fo lo rout p0 p1) = (sta, (f_X4_removeFirst fi li rin).1, ov, bits, (f_X4_removeFirst fi li rin).2.1, (f_X4_removeFirst fi li rin).2.2, lo, rout) := ((if_neg c_1).trans ((if_neg c_2).trans ((if_neg c_3).trans ((if_neg c_4).trans ((if_neg c_5).trans ((if_neg c_6).trans ((if_neg c_7).trans ((if_neg c_8).trans ((if_neg c_9).trans ((if_neg c_10).trans ((if_neg c_11).trans ((if_neg c_12).trans ((if_neg c_13).trans (if_pos c_14))))))))))))))
                              exact gRetV F hr hlocks hK hP hD hS rfl (by rw [ef]) (Nat.le_of_ble_eq_true rfl) (Nat.le_of_ble_eq_true rfl) dX2_perform_184
                            · skip
                              rcases (Decidable.em (p0 = 14)) with c_15 | c_15
                              · skip
                                refine lv_tableIn (off := 156) (tgt := 157) hx hb dX2_perform_1 (by rw [c_15]; decide) (by rw [c_15]; decide) (by rw [c_15]; decide) (by decide) ?_
                                refine lv_aload_n hx hb dX2_perform_157 rfl (lv_at hl 0 rfl) ?_
                                refine va_get (D := G.1) (ci := 5) (v := .ref o0) (C := RX2) (T := TX2) (N := 12) hx hb hts in_X2 hown hK hP 0 rfl rfl 3 (by decide) (hts _ k_fl_X2_32) (fun _ h9 => h9) rfl dX2_perform_158 ?_
                                refine lv_aload_n hx hb dX2_perform_161 rfl (lv_at hl 0 rfl) ?_
                                refine va_get (D := G.1) (ci := 5) (v := .int ac) (C := RX2) (T := TX2) (N := 12) hx hb hts in_X2 hown hK hP 0 rfl rfl 10 (by decide) (hts _ k_fl_X2_89) (fun _ h9 => h9) rfl dX2_perform_162 ?_
                                refine gV (As := [.int ac]) (rest := []) (wr := [(c0, .inr (5, [.ref s0, .ref k0, .ref i0, .ref o0, .ref x0, .int et, .int wt, .int tm, .int sta, .int he, .int ac, .int ov])), (s0, .inr (7, [.ref s1, .ref s2, .ref s3, .int dr])), (s1, .inl (G.2.1.1, 256, .inl bits)), (i0, .inr (6, [.ref i1, .int fi, .int li])), (i1, .inl (G.2.1.1, 64, .inl rin))]) (ws' := [(c0, .inr (5, [.ref s0, .ref k0, .ref i0, .ref o0, .ref x0, .int et, .int wt, .int tm, .int sta, .int he, .int ac, .int ov])), (s0, .inr (7, [.ref s1, .ref s2, .ref s3, .int dr])), (s1, .inl (G.2.1.1, 256, .inl bits)), (i0, .inr (6, [.ref i1, .int fi, .int li])), (i1, .inl (G.2.1.1, 64, .inl rin)), (o0, .inr (6, [.ref o1, .int fo, .int ((f_X4_addLast fo lo rout ac).1)])), (o1, .inl (G.2.1.1, 64, .inl ((f_X4_addLast fo lo rout ac).2)))]) F (c_X4_addLast l G o0 o1 fo lo rout ac) okV_X4_addLast k_ml_X2_116 rfl rfl ⟨Nat.le_of_ble_eq_true rfl, Nat.le_of_ble_eq_true rfl⟩ hN hK hP hD hS hA [5, 6] [0, 1, 2, 3, 4] [0, 1, 2, 3, 4, 5, 6] (by decide) rfl rfl (by decide) (by decide) (by decide) rfl (q0 := 5) rfl rfl rfl rfl hl.1 (Nat.le_of_ble_eq_true rfl) dX2_perform_165 ⟨Nat.le_refl _, Nat.le_refl _⟩ (fun H locs hP hD hS => ?_)
                                refine lv_goto (tgt := 184) hx hb dX2_perform_168 (by decide) ?_
                                have ef : (f_X2_perform sta ac ov bits fi li rin fo lo rout p0 p1) = (sta, ac, ov, bits, fi, li, (f_X4_addLast fo lo rout ac).1, (f_X4_addLast fo lo rout ac).2) := ((if_neg c_1).trans ((if_neg c_2).trans ((if_neg c_3).trans ((if_neg c_4).trans ((if_neg c_5).trans ((if_neg c_6).trans ((if_neg c_7).trans ((if_neg c_8).trans ((if_neg c_9).trans ((if_neg c_10).trans ((if_neg c_11).trans ((if_neg c_12).trans ((if_neg c_13).trans ((if_neg c_14).trans (if_pos c_15)))))))))))))))
                                exact gRetV F hr hlocks hK hP hD hS rfl (by rw [ef]) (Nat.le_of_ble_eq_true rfl) (Nat.le_of_ble_eq_true rfl) dX2_perform_184
                              · skip
                                have qc_1 : ¬ p0.toInt = 0 := lv_neT c_1 (by decide)
                                have qc_2 : ¬ p0.toInt = 1 := lv_neT c_2 (by decide)
                                have qc_3 : ¬ p0.toInt = 2 := lv_neT c_3 (by decide)
                                have qc_4 : ¬ p0.toInt = 3 := lv_neT c_4 (by decide)
                                have qc_5 : ¬ p0.toInt = 4 := lv_neT c_5 (by decide)
                                have qc_6 : ¬ p0.toInt = 5 := lv_neT c_6 (by decide)
                                have qc_7 : ¬ p0.toInt = 6 := lv_neT c_7 (by decide)
                                have qc_8 : ¬ p0.toInt = 7 := lv_neT c_8 (by decide)
                                have qc_9 : ¬ p0.toInt = 8 := lv_neT c_9 (by decide)
                                have qc_10 : ¬ p0.toInt = 9 := lv_neT c_10 (by decide)
                                have qc_11 : ¬ p0.toInt = 10 := lv_neT c_11 (by decide)
                                have qc_12 : ¬ p0.toInt = 11 := lv_neT c_12 (by decide)
                                have qc_13 : ¬ p0.toInt = 12 := lv_neT c_13 (by decide)
                                have qc_14 : ¬ p0.toInt = 13 := lv_neT c_14 (by decide)
                                have qc_15 : ¬ p0.toInt = 14 := lv_neT c_15 (by decide)
                                refine lv_tableOut (tgt := 171) hx hb dX2_perform_1 (by omega) (by decide) ?_
                                refine lv_aload_n hx hb dX2_perform_171 rfl (lv_at hl 0 rfl) ?_
                                refine lv_iload_n hx hb dX2_perform_172 rfl (lv_at hl 1 rfl) ?_
                                refine lv_aload_n hx hb dX2_perform_173 rfl (lv_at hl 0 rfl) ?_
                                refine va_get (D := G.1) (ci := 5) (v := .ref s0) (C := RX2) (T := TX2) (N := 12) hx hb hts in_X2 hown hK hP 0 rfl rfl 0 (by decide) (hts _ k_fl_X2_12) (fun _ h9 => h9) rfl dX2_perform_174 ?_
                                refine lv_iload_n hx hb dX2_perform_177 rfl (lv_at hl 2 rfl) ?_
                                refine gV (As := [.int p1]) (rest := [.int p0, .ref c0]) (wr := [(c0, .inr (5, [.ref s0, .ref k0, .ref i0, .ref o0, .ref x0, .int et, .int wt, .int tm, .int sta, .int he, .int ac, .int ov])), (i0, .inr (6, [.ref i1, .int fi, .int li])), (i1, .inl (G.2.1.1, 64, .inl rin)), (o0, .inr (6, [.ref o1, .int fo, .int lo])), (o1, .inl (G.2.1.1, 64, .inl rout))]) (ws' := [(c0, .inr (5, [.ref s0, .ref k0, .ref i0, .ref o0, .ref x0, .int et, .int wt, .int tm, .int sta, .int he, .int ac, .int ov])), (s0, .inr (7, [.ref s1, .ref s2, .ref s3, .int dr])), (s1, .inl (G.2.1.1, 256, .inl bits)), (i0, .inr (6, [.ref i1, .int fi, .int li])), (i1, .inl (G.2.1.1, 64, .inl rin)), (o0, .inr (6, [.ref o1, .int fo, .int lo])), (o1, .inl (G.2.1.1, 64, .inl rout))]) F (c_X5_wordAt l G s0 s1 s2 s3 bits dr p1) okV_X5_wordAt k_ml_X2_56 rfl rfl ⟨Nat.le_of_ble_eq_true rfl, Nat.le_of_ble_eq_true rfl⟩ hN hK hP hD hS hA [1, 2] [0, 3, 4, 5, 6] [0, 5, 6, 1, 2, 3, 4] (by decide) rfl rfl (by decide) (by decide) (by decide) rfl (q0 := 1) rfl rfl rfl rfl hl.1 (Nat.le_of_ble_eq_true rfl) dX2_perform_178 ⟨Nat.le_refl _, Nat.le_refl _⟩ (fun H locs hP hD hS => ?_)
                                refine gV (As := [.int p0, .int (f_X5_wordAt bits p1)]) (rest := []) (wr := [(s0, .inr (7, [.ref s1, .ref s2, .ref s3, .int dr])), (s1, .inl (G.2.1.1, 256, .inl bits)), (i0, .inr (6, [.ref i1, .int fi, .int li])), (i1, .inl (G.2.1.1, 64, .inl rin)), (o0, .inr (6, [.ref o1, .int fo, .int lo])), (o1, .inl (G.2.1.1, 64, .inl rout))]) (ws' := [(c0, .inr (5, [.ref s0, .ref k0, .ref i0, .ref o0, .ref x0, .int et, .int wt, .int tm, .int sta, .int he, .int ((f_X2_combine ac ov p0 (f_X5_wordAt bits p1)).1), .int ((f_X2_combine ac ov p0 (f_X5_wordAt bits p1)).2)])), (s0, .inr (7, [.ref s1, .ref s2, .ref s3, .int dr])), (s1, .inl (G.2.1.1, 256, .inl bits)), (i0, .inr (6, [.ref i1, .int fi, .int li])), (i1, .inl (G.2.1.1, 64, .inl rin)), (o0, .inr (6, [.ref o1, .int fo, .int lo])), (o1, .inl (G.2.1.1, 64, .inl rout))]) F (c_X2_combine l G c0 s0 k0 i0 o0 x0 et wt tm sta he ac ov p0 (f_X5_wordAt bits p1)) okV_X2_combine k_ml_X2_119 rfl rfl ⟨Nat.le_of_ble_eq_true rfl, Nat.le_of_ble_eq_true rfl⟩ hN hK hP hD hS hA [0] [1, 2, 3, 4, 5, 6] [6, 0, 1, 2, 3, 4, 5] (by decide) rfl rfl (by decide) (by decide) (by decide) rfl (q0 := 0) rfl rfl rfl rfl hl.1 (Nat.le_of_ble_eq_true rfl) dX2_perform_181 ⟨Nat.le_refl _, Nat.le_refl _⟩ (fun H locs hP hD hS => ?_)
                                have ef : (f_X2_perform sta ac ov bits fi li rin fo lo rout p0 p1) = (sta, (f_X2_combine ac ov p0 (f_X5_wordAt bits p1)).1, (f_X2_combine ac ov p0 (f_X5_wordAt bits p1)).2, bits, fi, li, lo, rout) := ((if_neg c_1).trans ((if_neg c_2).trans ((if_neg c_3).trans ((if_neg c_4).trans ((if_neg c_5).trans ((if_neg c_6).trans ((if_neg c_7).trans ((if_neg c_8).trans ((if_neg c_9).trans ((if_neg c_10).trans ((if_neg c_11).trans ((if_neg c_12).trans ((if_neg c_13).trans ((if_neg c_14).trans (if_neg c_15)))))))))))))))
                                exact gRetV F hr hlocks hK hP hD hS rfl (by rw [ef]) (Nat.le_of_ble_eq_true rfl) (Nat.le_of_ble_eq_true rfl) dX2_perform_184
theorem okV_X2_perform : gOkV yX2_perform cX2_perform 3 none 2 := ⟨⟨k_im_X2_perform, k_se_X2_perform, k_in_X2, k_cd_X2_perform⟩, by decide, by decide, by decide +kernel⟩
theorem X1per_ne {pt fp on : Int32} (h : ¬ 0 < f_X1_clockPeriod pt fp on → False) : ¬ f_X1_clockPeriod pt fp on = 0 := fun q => h (by rw [q]; decide)
def st_X2_endMajorCycle_15 (pt : Int32) (fp : Int32) (on : Int32) (temps : Nat → Int32) (p0 : Int32) (k : Nat) (v0_ : Nat → Int32) (v1_ : Nat → Int32) (v2_ : Nat → Int32) (v3_ : Int32) : (Nat → Int32) × (Nat → Int32) × (Nat → Int32) × Int32 :=
  let t2 := (f_X5_moveBits v0_ v1_ v2_ (nI k) (f_J9_floorDiv_7cf53 ((f_X6_mismatchOf (f_X1_temperatureOf temps (nI k)) (f_X1_clockPeriod pt fp on)) + ((f_X1_clockPeriod pt fp on) / 2)) (f_X1_clockPeriod pt fp on)))
  if (f_J9_abs_0f7a4 ((f_X6_mismatchOf (f_X1_temperatureOf temps (nI k)) (f_X1_clockPeriod pt fp on)) - ((f_J9_floorDiv_7cf53 ((f_X6_mismatchOf (f_X1_temperatureOf temps (nI k)) (f_X1_clockPeriod pt fp on)) + ((f_X1_clockPeriod pt fp on) / 2)) (f_X1_clockPeriod pt fp on)) * (f_X1_clockPeriod pt fp on)))) ≤ ((f_X1_clockPeriod pt fp on) / 4) then
    (t2.1, t2.2.1, t2.2.2, v3_)
  else
    let t4 := (f_X5_dropBit t2.1 v3_ (nI k) (((7 * p0) + (nI k)) % 640))
    (t4.2, t2.2.1, t2.2.2, t4.1)
def it_X2_endMajorCycle_15 (dr : Int32) (bits : Nat → Int32) (ring : Nat → Int32) (slips : Nat → Int32) (pt : Int32) (fp : Int32) (on : Int32) (temps : Nat → Int32) (p0 : Int32) : Nat → (Nat → Int32) × (Nat → Int32) × (Nat → Int32) × Int32
  | 0 => (bits, ring, slips, dr)
  | i + 1 => st_X2_endMajorCycle_15 pt fp on temps p0 i (it_X2_endMajorCycle_15 dr bits ring slips pt fp on temps p0 i).1 (it_X2_endMajorCycle_15 dr bits ring slips pt fp on temps p0 i).2.1 (it_X2_endMajorCycle_15 dr bits ring slips pt fp on temps p0 i).2.2.1 (it_X2_endMajorCycle_15 dr bits ring slips pt fp on temps p0 i).2.2.2
def f_X2_endMajorCycle (dr : Int32) (bits : Nat → Int32) (ring : Nat → Int32) (slips : Nat → Int32) (pt : Int32) (ot : Int32) (fp : Int32) (on : Int32) (temps : Nat → Int32) (p0 : Int32) : Int32 × (Nat → Int32) × (Nat → Int32) × (Nat → Int32) × Int32 × (Nat → Int32) :=
  if 0 < (f_X1_clockPeriod pt fp on) then
    let t3 := (f_X1_drift pt ot temps)
    ((it_X2_endMajorCycle_15 dr bits ring slips pt fp on temps p0 8).2.2.2, (it_X2_endMajorCycle_15 dr bits ring slips pt fp on temps p0 8).1, (it_X2_endMajorCycle_15 dr bits ring slips pt fp on temps p0 8).2.1, (it_X2_endMajorCycle_15 dr bits ring slips pt fp on temps p0 8).2.2.1, t3.1, t3.2)
  else
    (dr, bits, ring, slips, pt, temps)
set_option maxRecDepth 100000 in
set_option maxHeartbeats 4000000 in
theorem c_X2_endMajorCycle (l : Launch) (G : gG) (c0 : Nat) (s0 : Nat) (k0 : Nat) (i0 : Nat) (o0 : Nat) (x0 : Nat) (et : Int32) (wt : Int32) (tm : Int32) (sta : Int32) (he : Int32) (ac : Int32) (ov : Int32) (s1 : Nat) (s2 : Nat) (s3 : Nat) (dr : Int32) (bits : Nat → Int32) (ring : Nat → Int32) (slips : Nat → Int32) (k1 : Nat) (pt : Int32) (ot : Int32) (fp : Int32) (on : Int32) (temps : Nat → Int32) (p0 : Int32) : gM l G yX2_endMajorCycle cX2_endMajorCycle 6 none { frames := 2, cells := 0, slots := 0, locals := 50 } [.ref c0, .int p0] [(c0, .inr (5, [.ref s0, .ref k0, .ref i0, .ref o0, .ref x0, .int et, .int wt, .int tm, .int sta, .int he, .int ac, .int ov])), (s0, .inr (7, [.ref s1, .ref s2, .ref s3, .int dr])), (s1, .inl (G.2.1.1, 256, .inl bits)), (s2, .inl (G.2.1.1, 32, .inl ring)), (s3, .inl (G.2.1.1, 8, .inl slips)), (k0, .inr (4, [.ref k1, .int pt, .int ot, .int fp, .int on])), (k1, .inl (G.2.1.1, 8, .inl temps))] none [(c0, .inr (5, [.ref s0, .ref k0, .ref i0, .ref o0, .ref x0, .int et, .int wt, .int tm, .int sta, .int he, .int ac, .int ov])), (s0, .inr (7, [.ref s1, .ref s2, .ref s3, .int ((f_X2_endMajorCycle dr bits ring slips pt ot fp on temps p0).1)])), (s1, .inl (G.2.1.1, 256, .inl ((f_X2_endMajorCycle dr bits ring slips pt ot fp on temps p0).2.1))), (s2, .inl (G.2.1.1, 32, .inl ((f_X2_endMajorCycle dr bits ring slips pt ot fp on temps p0).2.2.1))), (s3, .inl (G.2.1.1, 8, .inl ((f_X2_endMajorCycle dr bits ring slips pt ot fp on temps p0).2.2.2.1))), (k0, .inr (4, [.ref k1, .int ((f_X2_endMajorCycle dr bits ring slips pt ot fp on temps p0).2.2.2.2.1), .int ot, .int fp, .int on])), (k1, .inl (G.2.1.1, 8, .inl ((f_X2_endMajorCycle dr bits ring slips pt ot fp on temps p0).2.2.2.2.2)))] 0 0 := by
  refine gBegin (by decide +kernel) (Nat.le_of_ble_eq_true rfl) (fun p e s m args below meth c A F hr hlocks hname hN hK hP hD hA hS ls hl => ?_)
  obtain ⟨hx, hb, hml, hown, hts⟩ := id F
  replace hP : va_P G.1 vwCl [(c0, .inr (5, [.ref s0, .ref k0, .ref i0, .ref o0, .ref x0, .int et, .int wt, .int tm, .int sta, .int he, .int ac, .int ov])), (s0, .inr (7, [.ref s1, .ref s2, .ref s3, .int dr])), (s1, .inl (G.2.1.1, 256, .inl bits)), (s2, .inl (G.2.1.1, 32, .inl ring)), (s3, .inl (G.2.1.1, 8, .inl slips)), (k0, .inr (4, [.ref k1, .int pt, .int ot, .int fp, .int on])), (k1, .inl (G.2.1.1, 8, .inl temps))] s.heap := hP
  replace hl : lv_has ls 6 [(0, .ref c0), (1, .int p0)] := hl
  refine lv_aload_n hx hb dX2_endMajorCycle_0 rfl (lv_at hl 0 rfl) ?_
  refine va_get (D := G.1) (ci := 5) (v := .ref k0) (C := RX2) (T := TX2) (N := 12) hx hb hts in_X2 hown hK hP 0 rfl rfl 1 (by decide) (hts _ k_fl_X2_21) (fun _ h9 => h9) rfl dX2_endMajorCycle_1 ?_
  refine gV (As := []) (rest := []) (wr := [(c0, .inr (5, [.ref s0, .ref k0, .ref i0, .ref o0, .ref x0, .int et, .int wt, .int tm, .int sta, .int he, .int ac, .int ov])), (s0, .inr (7, [.ref s1, .ref s2, .ref s3, .int dr])), (s1, .inl (G.2.1.1, 256, .inl bits)), (s2, .inl (G.2.1.1, 32, .inl ring)), (s3, .inl (G.2.1.1, 8, .inl slips)), (k1, .inl (G.2.1.1, 8, .inl temps))]) (ws' := [(c0, .inr (5, [.ref s0, .ref k0, .ref i0, .ref o0, .ref x0, .int et, .int wt, .int tm, .int sta, .int he, .int ac, .int ov])), (s0, .inr (7, [.ref s1, .ref s2, .ref s3, .int dr])), (s1, .inl (G.2.1.1, 256, .inl bits)), (s2, .inl (G.2.1.1, 32, .inl ring)), (s3, .inl (G.2.1.1, 8, .inl slips)), (k0, .inr (4, [.ref k1, .int pt, .int ot, .int fp, .int on])), (k1, .inl (G.2.1.1, 8, .inl temps))]) F (c_X1_clockPeriod l G k0 k1 pt ot fp on) okV_X1_clockPeriod k_ml_X2_139 rfl rfl ⟨Nat.le_of_ble_eq_true rfl, Nat.le_of_ble_eq_true rfl⟩ hN hK hP hD hS hA [5] [0, 1, 2, 3, 4, 6] [0, 1, 2, 3, 4, 6, 5] (by decide) rfl rfl (by decide) (by decide) (by decide) rfl (q0 := 5) rfl rfl rfl rfl hl.1 (Nat.le_of_ble_eq_true rfl) dX2_endMajorCycle_4 ⟨Nat.le_refl _, Nat.le_refl _⟩ (fun H locs hP hD hS => ?_)
  refine lv_istore_n (lv' := [(2, .int (f_X1_clockPeriod pt fp on)), (0, .ref c0), (1, .int p0)]) hx hb dX2_endMajorCycle_7 rfl hl (by decide) rfl (fun ls hl => ?_)
  refine lv_iload_n hx hb dX2_endMajorCycle_8 rfl (lv_at hl 0 rfl) ?_
  refine lv_if_gt (tgt := 13) hx hb dX2_endMajorCycle_9 (by decide) (fun c_1 => ?_) (fun c_1 => ?_)
  · skip
    refine lv_iconst (v := 0) hx hb dX2_endMajorCycle_13 (by decide) ?_
    refine lv_istore_n (lv' := [(3, .int 0), (2, .int (f_X1_clockPeriod pt fp on)), (0, .ref c0), (1, .int p0)]) hx hb dX2_endMajorCycle_14 rfl hl (by decide) rfl (fun ls hl => ?_)
    have loop_15 : ∀ (fu k : Nat), k + fu = 8 → ∀ (H : Heap) (locs : List Loc), va_P G.1 vwCl [(c0, .inr (5, [.ref s0, .ref k0, .ref i0, .ref o0, .ref x0, .int et, .int wt, .int tm, .int sta, .int he, .int ac, .int ov])), (s0, .inr (7, [.ref s1, .ref s2, .ref s3, .int ((it_X2_endMajorCycle_15 dr bits ring slips pt fp on temps p0 k).2.2.2)])), (s1, .inl (G.2.1.1, 256, .inl ((it_X2_endMajorCycle_15 dr bits ring slips pt fp on temps p0 k).1))), (s2, .inl (G.2.1.1, 32, .inl ((it_X2_endMajorCycle_15 dr bits ring slips pt fp on temps p0 k).2.1))), (s3, .inl (G.2.1.1, 8, .inl ((it_X2_endMajorCycle_15 dr bits ring slips pt fp on temps p0 k).2.2.1))), (k0, .inr (4, [.ref k1, .int pt, .int ot, .int fp, .int on])), (k1, .inl (G.2.1.1, 8, .inl temps))] H → va_D A [(c0, .inr (5, [.ref s0, .ref k0, .ref i0, .ref o0, .ref x0, .int et, .int wt, .int tm, .int sta, .int he, .int ac, .int ov])), (s0, .inr (7, [.ref s1, .ref s2, .ref s3, .int ((it_X2_endMajorCycle_15 dr bits ring slips pt fp on temps p0 k).2.2.2)])), (s1, .inl (G.2.1.1, 256, .inl ((it_X2_endMajorCycle_15 dr bits ring slips pt fp on temps p0 k).1))), (s2, .inl (G.2.1.1, 32, .inl ((it_X2_endMajorCycle_15 dr bits ring slips pt fp on temps p0 k).2.1))), (s3, .inl (G.2.1.1, 8, .inl ((it_X2_endMajorCycle_15 dr bits ring slips pt fp on temps p0 k).2.2.1))), (k0, .inr (4, [.ref k1, .int pt, .int ot, .int fp, .int on])), (k1, .inl (G.2.1.1, 8, .inl temps))] → va_S A s.heap H locs → ∀ ls : Array Slot, lv_has ls 6 [(3, .int (nI k)), (2, .int (f_X1_clockPeriod pt fp on)), (0, .ref c0), (1, .int p0)] → W p l e { frames := 2, cells := 0, slots := 0, locals := 50 } s m args below meth c H locs 0 0 (MQ below (gQ G none [(c0, .inr (5, [.ref s0, .ref k0, .ref i0, .ref o0, .ref x0, .int et, .int wt, .int tm, .int sta, .int he, .int ac, .int ov])), (s0, .inr (7, [.ref s1, .ref s2, .ref s3, .int ((f_X2_endMajorCycle dr bits ring slips pt ot fp on temps p0).1)])), (s1, .inl (G.2.1.1, 256, .inl ((f_X2_endMajorCycle dr bits ring slips pt ot fp on temps p0).2.1))), (s2, .inl (G.2.1.1, 32, .inl ((f_X2_endMajorCycle dr bits ring slips pt ot fp on temps p0).2.2.1))), (s3, .inl (G.2.1.1, 8, .inl ((f_X2_endMajorCycle dr bits ring slips pt ot fp on temps p0).2.2.2.1))), (k0, .inr (4, [.ref k1, .int ((f_X2_endMajorCycle dr bits ring slips pt ot fp on temps p0).2.2.2.2.1), .int ot, .int fp, .int on])), (k1, .inl (G.2.1.1, 8, .inl ((f_X2_endMajorCycle dr bits ring slips pt ot fp on temps p0).2.2.2.2.2)))] A) args s 0 0 A) (F0 m 15 ls []) := by
      intro fu
      induction fu with
      | zero =>
        intro k hk H locs hP hD hS ls hl
        have ek : 8 = k := by omega
        subst ek
        replace hP : va_P G.1 vwCl [(c0, .inr (5, [.ref s0, .ref k0, .ref i0, .ref o0, .ref x0, .int et, .int wt, .int tm, .int sta, .int he, .int ac, .int ov])), (s0, .inr (7, [.ref s1, .ref s2, .ref s3, .int ((it_X2_endMajorCycle_15 dr bits ring slips pt fp on temps p0 8).2.2.2)])), (s1, .inl (G.2.1.1, 256, .inl ((it_X2_endMajorCycle_15 dr bits ring slips pt fp on temps p0 8).1))), (s2, .inl (G.2.1.1, 32, .inl ((it_X2_endMajorCycle_15 dr bits ring slips pt fp on temps p0 8).2.1))), (s3, .inl (G.2.1.1, 8, .inl ((it_X2_endMajorCycle_15 dr bits ring slips pt fp on temps p0 8).2.2.1))), (k0, .inr (4, [.ref k1, .int pt, .int ot, .int fp, .int on])), (k1, .inl (G.2.1.1, 8, .inl temps))] H := hP
        replace hD : va_D A [(c0, .inr (5, [.ref s0, .ref k0, .ref i0, .ref o0, .ref x0, .int et, .int wt, .int tm, .int sta, .int he, .int ac, .int ov])), (s0, .inr (7, [.ref s1, .ref s2, .ref s3, .int ((it_X2_endMajorCycle_15 dr bits ring slips pt fp on temps p0 8).2.2.2)])), (s1, .inl (G.2.1.1, 256, .inl ((it_X2_endMajorCycle_15 dr bits ring slips pt fp on temps p0 8).1))), (s2, .inl (G.2.1.1, 32, .inl ((it_X2_endMajorCycle_15 dr bits ring slips pt fp on temps p0 8).2.1))), (s3, .inl (G.2.1.1, 8, .inl ((it_X2_endMajorCycle_15 dr bits ring slips pt fp on temps p0 8).2.2.1))), (k0, .inr (4, [.ref k1, .int pt, .int ot, .int fp, .int on])), (k1, .inl (G.2.1.1, 8, .inl temps))] := hD
        replace hl : lv_has ls 6 [(3, .int (nI 8)), (2, .int (f_X1_clockPeriod pt fp on)), (0, .ref c0), (1, .int p0)] := hl
        refine lv_iload_n hx hb dX2_endMajorCycle_15 rfl (lv_at hl 0 rfl) ?_
        refine lv_bipush (v := 8) hx hb dX2_endMajorCycle_16 (by decide) ?_
        refine lv_icmp_ge (tgt := 97) hx hb dX2_endMajorCycle_18 (by decide) (fun c_2 => ?_) (fun c_2 => ?_)
        · skip
          refine lv_aload_n hx hb dX2_endMajorCycle_97 rfl (lv_at hl 2 rfl) ?_
          refine va_get (D := G.1) (ci := 5) (v := .ref k0) (C := RX2) (T := TX2) (N := 12) hx hb hts in_X2 hown hK hP 0 rfl rfl 1 (by decide) (hts _ k_fl_X2_21) (fun _ h9 => h9) rfl dX2_endMajorCycle_98 ?_
          refine gV (As := []) (rest := []) (wr := [(c0, .inr (5, [.ref s0, .ref k0, .ref i0, .ref o0, .ref x0, .int et, .int wt, .int tm, .int sta, .int he, .int ac, .int ov])), (s0, .inr (7, [.ref s1, .ref s2, .ref s3, .int ((it_X2_endMajorCycle_15 dr bits ring slips pt fp on temps p0 8).2.2.2)])), (s1, .inl (G.2.1.1, 256, .inl ((it_X2_endMajorCycle_15 dr bits ring slips pt fp on temps p0 8).1))), (s2, .inl (G.2.1.1, 32, .inl ((it_X2_endMajorCycle_15 dr bits ring slips pt fp on temps p0 8).2.1))), (s3, .inl (G.2.1.1, 8, .inl ((it_X2_endMajorCycle_15 dr bits ring slips pt fp on temps p0 8).2.2.1)))]) (ws' := [(c0, .inr (5, [.ref s0, .ref k0, .ref i0, .ref o0, .ref x0, .int et, .int wt, .int tm, .int sta, .int he, .int ac, .int ov])), (s0, .inr (7, [.ref s1, .ref s2, .ref s3, .int ((it_X2_endMajorCycle_15 dr bits ring slips pt fp on temps p0 8).2.2.2)])), (s1, .inl (G.2.1.1, 256, .inl ((it_X2_endMajorCycle_15 dr bits ring slips pt fp on temps p0 8).1))), (s2, .inl (G.2.1.1, 32, .inl ((it_X2_endMajorCycle_15 dr bits ring slips pt fp on temps p0 8).2.1))), (s3, .inl (G.2.1.1, 8, .inl ((it_X2_endMajorCycle_15 dr bits ring slips pt fp on temps p0 8).2.2.1))), (k0, .inr (4, [.ref k1, .int ((f_X1_drift pt ot temps).1), .int ot, .int fp, .int on])), (k1, .inl (G.2.1.1, 8, .inl ((f_X1_drift pt ot temps).2)))]) F (c_X1_drift l G k0 k1 pt ot fp on temps) okV_X1_drift k_ml_X2_162 rfl rfl ⟨Nat.le_of_ble_eq_true rfl, Nat.le_of_ble_eq_true rfl⟩ hN hK hP hD hS hA [5, 6] [0, 1, 2, 3, 4] [0, 1, 2, 3, 4, 5, 6] (by decide) rfl rfl (by decide) (by decide) (by decide) rfl (q0 := 5) rfl rfl rfl rfl hl.1 (Nat.le_of_ble_eq_true rfl) dX2_endMajorCycle_101 ⟨Nat.le_refl _, Nat.le_refl _⟩ (fun H locs hP hD hS => ?_)
          generalize et3 : (f_X1_drift pt ot temps) = t3 at hP hD ⊢
          have ef : (f_X2_endMajorCycle dr bits ring slips pt ot fp on temps p0) = ((it_X2_endMajorCycle_15 dr bits ring slips pt fp on temps p0 8).2.2.2, (it_X2_endMajorCycle_15 dr bits ring slips pt fp on temps p0 8).1, (it_X2_endMajorCycle_15 dr bits ring slips pt fp on temps p0 8).2.1, (it_X2_endMajorCycle_15 dr bits ring slips pt fp on temps p0 8).2.2.1, t3.1, t3.2) := (by subst et3; exact (if_pos c_1))
          exact gRetV F hr hlocks hK hP hD hS rfl (by rw [ef]) (Nat.le_of_ble_eq_true rfl) (Nat.le_of_ble_eq_true rfl) dX2_endMajorCycle_104
        · exact absurd (Int32.le_refl _) c_2
      | succ fu ih =>
        intro k hk H locs hP hD hS ls hl
        have hlt_k : k < 8 := by omega
        refine lv_iload_n hx hb dX2_endMajorCycle_15 rfl (lv_at hl 0 rfl) ?_
        refine lv_bipush (v := 8) hx hb dX2_endMajorCycle_16 (by decide) ?_
        refine lv_icmp_ge (tgt := 97) hx hb dX2_endMajorCycle_18 (by decide) (fun c_4 => ?_) (fun c_4 => ?_)
        · exact absurd c_4 (nI_ge hlt_k (by decide))
        · skip
          refine lv_aload_n hx hb dX2_endMajorCycle_21 rfl (lv_at hl 2 rfl) ?_
          refine va_get (D := G.1) (ci := 5) (v := .ref k0) (C := RX2) (T := TX2) (N := 12) hx hb hts in_X2 hown hK hP 0 rfl rfl 1 (by decide) (hts _ k_fl_X2_21) (fun _ h9 => h9) rfl dX2_endMajorCycle_22 ?_
          refine lv_iload_n hx hb dX2_endMajorCycle_25 rfl (lv_at hl 0 rfl) ?_
          refine gV (As := [.int (nI k)]) (rest := []) (wr := [(c0, .inr (5, [.ref s0, .ref k0, .ref i0, .ref o0, .ref x0, .int et, .int wt, .int tm, .int sta, .int he, .int ac, .int ov])), (s0, .inr (7, [.ref s1, .ref s2, .ref s3, .int ((it_X2_endMajorCycle_15 dr bits ring slips pt fp on temps p0 k).2.2.2)])), (s1, .inl (G.2.1.1, 256, .inl ((it_X2_endMajorCycle_15 dr bits ring slips pt fp on temps p0 k).1))), (s2, .inl (G.2.1.1, 32, .inl ((it_X2_endMajorCycle_15 dr bits ring slips pt fp on temps p0 k).2.1))), (s3, .inl (G.2.1.1, 8, .inl ((it_X2_endMajorCycle_15 dr bits ring slips pt fp on temps p0 k).2.2.1)))]) (ws' := [(c0, .inr (5, [.ref s0, .ref k0, .ref i0, .ref o0, .ref x0, .int et, .int wt, .int tm, .int sta, .int he, .int ac, .int ov])), (s0, .inr (7, [.ref s1, .ref s2, .ref s3, .int ((it_X2_endMajorCycle_15 dr bits ring slips pt fp on temps p0 k).2.2.2)])), (s1, .inl (G.2.1.1, 256, .inl ((it_X2_endMajorCycle_15 dr bits ring slips pt fp on temps p0 k).1))), (s2, .inl (G.2.1.1, 32, .inl ((it_X2_endMajorCycle_15 dr bits ring slips pt fp on temps p0 k).2.1))), (s3, .inl (G.2.1.1, 8, .inl ((it_X2_endMajorCycle_15 dr bits ring slips pt fp on temps p0 k).2.2.1))), (k0, .inr (4, [.ref k1, .int pt, .int ot, .int fp, .int on])), (k1, .inl (G.2.1.1, 8, .inl temps))]) F (c_X1_temperatureOf l G k0 k1 pt ot fp on temps (nI k)) okV_X1_temperatureOf k_ml_X2_142 rfl rfl ⟨Nat.le_of_ble_eq_true rfl, Nat.le_of_ble_eq_true rfl⟩ hN hK hP hD hS hA [5, 6] [0, 1, 2, 3, 4] [0, 1, 2, 3, 4, 5, 6] (by decide) rfl rfl (by decide) (by decide) (by decide) rfl (q0 := 5) rfl rfl rfl rfl hl.1 (Nat.le_of_ble_eq_true rfl) dX2_endMajorCycle_26 ⟨Nat.le_refl _, Nat.le_refl _⟩ (fun H locs hP hD hS => ?_)
          refine lv_iload_n hx hb dX2_endMajorCycle_29 rfl (lv_at hl 1 rfl) ?_
          refine gSN (As := [.int (f_X1_temperatureOf temps (nI k)), .int (f_X1_clockPeriod pt fp on)]) (rest := []) (wr := [(c0, .inr (5, [.ref s0, .ref k0, .ref i0, .ref o0, .ref x0, .int et, .int wt, .int tm, .int sta, .int he, .int ac, .int ov])), (s0, .inr (7, [.ref s1, .ref s2, .ref s3, .int ((it_X2_endMajorCycle_15 dr bits ring slips pt fp on temps p0 k).2.2.2)])), (s1, .inl (G.2.1.1, 256, .inl ((it_X2_endMajorCycle_15 dr bits ring slips pt fp on temps p0 k).1))), (s2, .inl (G.2.1.1, 32, .inl ((it_X2_endMajorCycle_15 dr bits ring slips pt fp on temps p0 k).2.1))), (s3, .inl (G.2.1.1, 8, .inl ((it_X2_endMajorCycle_15 dr bits ring slips pt fp on temps p0 k).2.2.1))), (k0, .inr (4, [.ref k1, .int pt, .int ot, .int fp, .int on])), (k1, .inl (G.2.1.1, 8, .inl temps))]) (ws' := [(c0, .inr (5, [.ref s0, .ref k0, .ref i0, .ref o0, .ref x0, .int et, .int wt, .int tm, .int sta, .int he, .int ac, .int ov])), (s0, .inr (7, [.ref s1, .ref s2, .ref s3, .int ((it_X2_endMajorCycle_15 dr bits ring slips pt fp on temps p0 k).2.2.2)])), (s1, .inl (G.2.1.1, 256, .inl ((it_X2_endMajorCycle_15 dr bits ring slips pt fp on temps p0 k).1))), (s2, .inl (G.2.1.1, 32, .inl ((it_X2_endMajorCycle_15 dr bits ring slips pt fp on temps p0 k).2.1))), (s3, .inl (G.2.1.1, 8, .inl ((it_X2_endMajorCycle_15 dr bits ring slips pt fp on temps p0 k).2.2.1))), (k0, .inr (4, [.ref k1, .int pt, .int ot, .int fp, .int on])), (k1, .inl (G.2.1.1, 8, .inl temps))]) F (c_X6_mismatchOf l G (f_X1_temperatureOf temps (nI k)) (f_X1_clockPeriod pt fp on)) okS_X6_mismatchOf kn_X2_145 rfl rfl ⟨Nat.le_of_ble_eq_true rfl, Nat.le_of_ble_eq_true rfl⟩ hN hK hP hD hS hA [] [0, 1, 2, 3, 4, 5, 6] [0, 1, 2, 3, 4, 5, 6] (by decide) rfl rfl (by decide) (by decide) (by decide) rfl rfl rfl hl.1 (Nat.le_of_ble_eq_true rfl) dX2_endMajorCycle_30 ⟨Nat.le_refl _, Nat.le_refl _⟩ (fun H locs hP hD hS => ?_)
          refine lv_istore (lv' := [(4, .int (f_X6_mismatchOf (f_X1_temperatureOf temps (nI k)) (f_X1_clockPeriod pt fp on))), (3, .int (nI k)), (2, .int (f_X1_clockPeriod pt fp on)), (0, .ref c0), (1, .int p0)]) hx hb dX2_endMajorCycle_33 hl (by decide) rfl (fun ls hl => ?_)
          refine lv_iload hx hb dX2_endMajorCycle_35 (lv_at hl 0 rfl) ?_
          refine lv_iload_n hx hb dX2_endMajorCycle_37 rfl (lv_at hl 2 rfl) ?_
          refine lv_iconst (v := 2) hx hb dX2_endMajorCycle_38 (by decide) ?_
          refine lv_idiv hx hb dX2_endMajorCycle_39 (by decide) ?_
          refine lv_iadd hx hb dX2_endMajorCycle_40 ?_
          refine lv_iload_n hx hb dX2_endMajorCycle_41 rfl (lv_at hl 2 rfl) ?_
          refine gS (As := [.int ((f_X6_mismatchOf (f_X1_temperatureOf temps (nI k)) (f_X1_clockPeriod pt fp on)) + ((f_X1_clockPeriod pt fp on) / 2)), .int (f_X1_clockPeriod pt fp on)]) (rest := []) (wr := [(c0, .inr (5, [.ref s0, .ref k0, .ref i0, .ref o0, .ref x0, .int et, .int wt, .int tm, .int sta, .int he, .int ac, .int ov])), (s0, .inr (7, [.ref s1, .ref s2, .ref s3, .int ((it_X2_endMajorCycle_15 dr bits ring slips pt fp on temps p0 k).2.2.2)])), (s1, .inl (G.2.1.1, 256, .inl ((it_X2_endMajorCycle_15 dr bits ring slips pt fp on temps p0 k).1))), (s2, .inl (G.2.1.1, 32, .inl ((it_X2_endMajorCycle_15 dr bits ring slips pt fp on temps p0 k).2.1))), (s3, .inl (G.2.1.1, 8, .inl ((it_X2_endMajorCycle_15 dr bits ring slips pt fp on temps p0 k).2.2.1))), (k0, .inr (4, [.ref k1, .int pt, .int ot, .int fp, .int on])), (k1, .inl (G.2.1.1, 8, .inl temps))]) (ws' := [(c0, .inr (5, [.ref s0, .ref k0, .ref i0, .ref o0, .ref x0, .int et, .int wt, .int tm, .int sta, .int he, .int ac, .int ov])), (s0, .inr (7, [.ref s1, .ref s2, .ref s3, .int ((it_X2_endMajorCycle_15 dr bits ring slips pt fp on temps p0 k).2.2.2)])), (s1, .inl (G.2.1.1, 256, .inl ((it_X2_endMajorCycle_15 dr bits ring slips pt fp on temps p0 k).1))), (s2, .inl (G.2.1.1, 32, .inl ((it_X2_endMajorCycle_15 dr bits ring slips pt fp on temps p0 k).2.1))), (s3, .inl (G.2.1.1, 8, .inl ((it_X2_endMajorCycle_15 dr bits ring slips pt fp on temps p0 k).2.2.1))), (k0, .inr (4, [.ref k1, .int pt, .int ot, .int fp, .int on])), (k1, .inl (G.2.1.1, 8, .inl temps))]) F (c_J9_floorDiv_7cf53 l G ((f_X6_mismatchOf (f_X1_temperatureOf temps (nI k)) (f_X1_clockPeriod pt fp on)) + ((f_X1_clockPeriod pt fp on) / 2)) (f_X1_clockPeriod pt fp on) (fun q9 => absurd (q9 ▸ c_1 : (0 : Int32) < 0) (by decide))) okS_J9_floorDiv_7cf53 k_ml_X2_148 rfl rfl ⟨Nat.le_of_ble_eq_true rfl, Nat.le_of_ble_eq_true rfl⟩ hN hK hP hD hS hA [] [0, 1, 2, 3, 4, 5, 6] [0, 1, 2, 3, 4, 5, 6] (by decide) rfl rfl (by decide) (by decide) (by decide) rfl rfl rfl hl.1 (Nat.le_of_ble_eq_true rfl) dX2_endMajorCycle_42 ⟨Nat.le_refl _, Nat.le_refl _⟩ (fun H locs hP hD hS => ?_)
          refine lv_istore (lv' := [(5, .int (f_J9_floorDiv_7cf53 ((f_X6_mismatchOf (f_X1_temperatureOf temps (nI k)) (f_X1_clockPeriod pt fp on)) + ((f_X1_clockPeriod pt fp on) / 2)) (f_X1_clockPeriod pt fp on))), (4, .int (f_X6_mismatchOf (f_X1_temperatureOf temps (nI k)) (f_X1_clockPeriod pt fp on))), (3, .int (nI k)), (2, .int (f_X1_clockPeriod pt fp on)), (0, .ref c0), (1, .int p0)]) hx hb dX2_endMajorCycle_45 hl (by decide) rfl (fun ls hl => ?_)
          refine lv_aload_n hx hb dX2_endMajorCycle_47 rfl (lv_at hl 4 rfl) ?_
          refine va_get (D := G.1) (ci := 5) (v := .ref s0) (C := RX2) (T := TX2) (N := 12) hx hb hts in_X2 hown hK hP 0 rfl rfl 0 (by decide) (hts _ k_fl_X2_12) (fun _ h9 => h9) rfl dX2_endMajorCycle_48 ?_
          refine lv_iload_n hx hb dX2_endMajorCycle_51 rfl (lv_at hl 2 rfl) ?_
          refine lv_iload hx hb dX2_endMajorCycle_52 (lv_at hl 0 rfl) ?_
          refine gV (As := [.int (nI k), .int (f_J9_floorDiv_7cf53 ((f_X6_mismatchOf (f_X1_temperatureOf temps (nI k)) (f_X1_clockPeriod pt fp on)) + ((f_X1_clockPeriod pt fp on) / 2)) (f_X1_clockPeriod pt fp on))]) (rest := []) (wr := [(c0, .inr (5, [.ref s0, .ref k0, .ref i0, .ref o0, .ref x0, .int et, .int wt, .int tm, .int sta, .int he, .int ac, .int ov])), (k0, .inr (4, [.ref k1, .int pt, .int ot, .int fp, .int on])), (k1, .inl (G.2.1.1, 8, .inl temps))]) (ws' := [(c0, .inr (5, [.ref s0, .ref k0, .ref i0, .ref o0, .ref x0, .int et, .int wt, .int tm, .int sta, .int he, .int ac, .int ov])), (s0, .inr (7, [.ref s1, .ref s2, .ref s3, .int ((it_X2_endMajorCycle_15 dr bits ring slips pt fp on temps p0 k).2.2.2)])), (s1, .inl (G.2.1.1, 256, .inl ((f_X5_moveBits ((it_X2_endMajorCycle_15 dr bits ring slips pt fp on temps p0 k).1) ((it_X2_endMajorCycle_15 dr bits ring slips pt fp on temps p0 k).2.1) ((it_X2_endMajorCycle_15 dr bits ring slips pt fp on temps p0 k).2.2.1) (nI k) (f_J9_floorDiv_7cf53 ((f_X6_mismatchOf (f_X1_temperatureOf temps (nI k)) (f_X1_clockPeriod pt fp on)) + ((f_X1_clockPeriod pt fp on) / 2)) (f_X1_clockPeriod pt fp on))).1))), (s2, .inl (G.2.1.1, 32, .inl ((f_X5_moveBits ((it_X2_endMajorCycle_15 dr bits ring slips pt fp on temps p0 k).1) ((it_X2_endMajorCycle_15 dr bits ring slips pt fp on temps p0 k).2.1) ((it_X2_endMajorCycle_15 dr bits ring slips pt fp on temps p0 k).2.2.1) (nI k) (f_J9_floorDiv_7cf53 ((f_X6_mismatchOf (f_X1_temperatureOf temps (nI k)) (f_X1_clockPeriod pt fp on)) + ((f_X1_clockPeriod pt fp on) / 2)) (f_X1_clockPeriod pt fp on))).2.1))), (s3, .inl (G.2.1.1, 8, .inl ((f_X5_moveBits ((it_X2_endMajorCycle_15 dr bits ring slips pt fp on temps p0 k).1) ((it_X2_endMajorCycle_15 dr bits ring slips pt fp on temps p0 k).2.1) ((it_X2_endMajorCycle_15 dr bits ring slips pt fp on temps p0 k).2.2.1) (nI k) (f_J9_floorDiv_7cf53 ((f_X6_mismatchOf (f_X1_temperatureOf temps (nI k)) (f_X1_clockPeriod pt fp on)) + ((f_X1_clockPeriod pt fp on) / 2)) (f_X1_clockPeriod pt fp on))).2.2))), (k0, .inr (4, [.ref k1, .int pt, .int ot, .int fp, .int on])), (k1, .inl (G.2.1.1, 8, .inl temps))]) F (c_X5_moveBits l G s0 s1 s2 s3 ((it_X2_endMajorCycle_15 dr bits ring slips pt fp on temps p0 k).1) ((it_X2_endMajorCycle_15 dr bits ring slips pt fp on temps p0 k).2.1) ((it_X2_endMajorCycle_15 dr bits ring slips pt fp on temps p0 k).2.2.1) ((it_X2_endMajorCycle_15 dr bits ring slips pt fp on temps p0 k).2.2.2) (nI k) (f_J9_floorDiv_7cf53 ((f_X6_mismatchOf (f_X1_temperatureOf temps (nI k)) (f_X1_clockPeriod pt fp on)) + ((f_X1_clockPeriod pt fp on) / 2)) (f_X1_clockPeriod pt fp on))) okV_X5_moveBits k_ml_X2_153 rfl rfl ⟨Nat.le_of_ble_eq_true rfl, Nat.le_of_ble_eq_true rfl⟩ hN hK hP hD hS hA [1, 2, 3, 4] [0, 5, 6] [0, 3, 4, 5, 6, 1, 2] (by decide) rfl rfl (by decide) (by decide) (by decide) rfl (q0 := 1) rfl rfl rfl rfl hl.1 (Nat.le_of_ble_eq_true rfl) dX2_endMajorCycle_54 ⟨Nat.le_refl _, Nat.le_refl _⟩ (fun H locs hP hD hS => ?_)
          generalize et5 : (f_X5_moveBits ((it_X2_endMajorCycle_15 dr bits ring slips pt fp on temps p0 k).1) ((it_X2_endMajorCycle_15 dr bits ring slips pt fp on temps p0 k).2.1) ((it_X2_endMajorCycle_15 dr bits ring slips pt fp on temps p0 k).2.2.1) (nI k) (f_J9_floorDiv_7cf53 ((f_X6_mismatchOf (f_X1_temperatureOf temps (nI k)) (f_X1_clockPeriod pt fp on)) + ((f_X1_clockPeriod pt fp on) / 2)) (f_X1_clockPeriod pt fp on))) = t5 at hP hD ⊢
          refine lv_iload hx hb dX2_endMajorCycle_57 (lv_at hl 1 rfl) ?_
          refine lv_iload hx hb dX2_endMajorCycle_59 (lv_at hl 0 rfl) ?_
          refine lv_iload_n hx hb dX2_endMajorCycle_61 rfl (lv_at hl 3 rfl) ?_
          refine lv_imul hx hb dX2_endMajorCycle_62 ?_
          refine lv_isub hx hb dX2_endMajorCycle_63 ?_
          refine gS (As := [.int ((f_X6_mismatchOf (f_X1_temperatureOf temps (nI k)) (f_X1_clockPeriod pt fp on)) - ((f_J9_floorDiv_7cf53 ((f_X6_mismatchOf (f_X1_temperatureOf temps (nI k)) (f_X1_clockPeriod pt fp on)) + ((f_X1_clockPeriod pt fp on) / 2)) (f_X1_clockPeriod pt fp on)) * (f_X1_clockPeriod pt fp on)))]) (rest := []) (wr := [(c0, .inr (5, [.ref s0, .ref k0, .ref i0, .ref o0, .ref x0, .int et, .int wt, .int tm, .int sta, .int he, .int ac, .int ov])), (s0, .inr (7, [.ref s1, .ref s2, .ref s3, .int ((it_X2_endMajorCycle_15 dr bits ring slips pt fp on temps p0 k).2.2.2)])), (s1, .inl (G.2.1.1, 256, .inl t5.1)), (s2, .inl (G.2.1.1, 32, .inl t5.2.1)), (s3, .inl (G.2.1.1, 8, .inl t5.2.2)), (k0, .inr (4, [.ref k1, .int pt, .int ot, .int fp, .int on])), (k1, .inl (G.2.1.1, 8, .inl temps))]) (ws' := [(c0, .inr (5, [.ref s0, .ref k0, .ref i0, .ref o0, .ref x0, .int et, .int wt, .int tm, .int sta, .int he, .int ac, .int ov])), (s0, .inr (7, [.ref s1, .ref s2, .ref s3, .int ((it_X2_endMajorCycle_15 dr bits ring slips pt fp on temps p0 k).2.2.2)])), (s1, .inl (G.2.1.1, 256, .inl t5.1)), (s2, .inl (G.2.1.1, 32, .inl t5.2.1)), (s3, .inl (G.2.1.1, 8, .inl t5.2.2)), (k0, .inr (4, [.ref k1, .int pt, .int ot, .int fp, .int on])), (k1, .inl (G.2.1.1, 8, .inl temps))]) F (c_J9_abs_0f7a4 l G ((f_X6_mismatchOf (f_X1_temperatureOf temps (nI k)) (f_X1_clockPeriod pt fp on)) - ((f_J9_floorDiv_7cf53 ((f_X6_mismatchOf (f_X1_temperatureOf temps (nI k)) (f_X1_clockPeriod pt fp on)) + ((f_X1_clockPeriod pt fp on) / 2)) (f_X1_clockPeriod pt fp on)) * (f_X1_clockPeriod pt fp on)))) okS_J9_abs_0f7a4 k_ml_X2_156 rfl rfl ⟨Nat.le_of_ble_eq_true rfl, Nat.le_of_ble_eq_true rfl⟩ hN hK hP hD hS hA [] [0, 1, 2, 3, 4, 5, 6] [0, 1, 2, 3, 4, 5, 6] (by decide) rfl rfl (by decide) (by decide) (by decide) rfl rfl rfl hl.1 (Nat.le_of_ble_eq_true rfl) dX2_endMajorCycle_64 ⟨Nat.le_refl _, Nat.le_refl _⟩ (fun H locs hP hD hS => ?_)
          refine lv_iload_n hx hb dX2_endMajorCycle_67 rfl (lv_at hl 3 rfl) ?_
          refine lv_iconst (v := 4) hx hb dX2_endMajorCycle_68 (by decide) ?_
          refine lv_idiv hx hb dX2_endMajorCycle_69 (by decide) ?_
          refine lv_icmp_le (tgt := 91) hx hb dX2_endMajorCycle_70 (by decide) (fun c_6 => ?_) (fun c_6 => ?_)
          · skip
            refine lv_iinc (v := (nI (k + 1))) (lv' := [(3, .int (nI (k + 1))), (5, .int (f_J9_floorDiv_7cf53 ((f_X6_mismatchOf (f_X1_temperatureOf temps (nI k)) (f_X1_clockPeriod pt fp on)) + ((f_X1_clockPeriod pt fp on) / 2)) (f_X1_clockPeriod pt fp on))), (4, .int (f_X6_mismatchOf (f_X1_temperatureOf temps (nI k)) (f_X1_clockPeriod pt fp on))), (2, .int (f_X1_clockPeriod pt fp on)), (0, .ref c0), (1, .int p0)]) hx hb dX2_endMajorCycle_91 hl (k := 2) rfl (nI_1 k) (by decide) rfl (fun ls hl => ?_)
            refine lv_goto (tgt := 15) hx hb dX2_endMajorCycle_94 (by decide) ?_
            have ek : (it_X2_endMajorCycle_15 dr bits ring slips pt fp on temps p0 (k + 1)) = (t5.1, t5.2.1, t5.2.2, ((it_X2_endMajorCycle_15 dr bits ring slips pt fp on temps p0 k).2.2.2)) := (by subst et5; exact (if_pos c_6))
            exact ih (k + 1) (by omega) _ _ (by rw [ek]; exact hP) (by rw [ek]; exact hD) hS ls (lv_sub hl [0, 3, 4, 5] rfl)
          · skip
            refine lv_aload_n hx hb dX2_endMajorCycle_73 rfl (lv_at hl 4 rfl) ?_
            refine va_get (D := G.1) (ci := 5) (v := .ref s0) (C := RX2) (T := TX2) (N := 12) hx hb hts in_X2 hown hK hP 0 rfl rfl 0 (by decide) (hts _ k_fl_X2_12) (fun _ h9 => h9) rfl dX2_endMajorCycle_74 ?_
            refine lv_iload_n hx hb dX2_endMajorCycle_77 rfl (lv_at hl 2 rfl) ?_
            refine lv_bipush (v := 7) hx hb dX2_endMajorCycle_78 (by decide) ?_
            refine lv_iload_n hx hb dX2_endMajorCycle_80 rfl (lv_at hl 5 rfl) ?_
            refine lv_imul hx hb dX2_endMajorCycle_81 ?_
            refine lv_iload_n hx hb dX2_endMajorCycle_82 rfl (lv_at hl 2 rfl) ?_
            refine lv_iadd hx hb dX2_endMajorCycle_83 ?_
            refine lv_sipush (v := 640) hx hb dX2_endMajorCycle_84 (by decide) ?_
            refine gIrem hx hb dX2_endMajorCycle_87 (by decide) ?_
            refine gV (As := [.int (nI k), .int (((7 * p0) + (nI k)) % 640)]) (rest := []) (wr := [(c0, .inr (5, [.ref s0, .ref k0, .ref i0, .ref o0, .ref x0, .int et, .int wt, .int tm, .int sta, .int he, .int ac, .int ov])), (s2, .inl (G.2.1.1, 32, .inl t5.2.1)), (s3, .inl (G.2.1.1, 8, .inl t5.2.2)), (k0, .inr (4, [.ref k1, .int pt, .int ot, .int fp, .int on])), (k1, .inl (G.2.1.1, 8, .inl temps))]) (ws' := [(c0, .inr (5, [.ref s0, .ref k0, .ref i0, .ref o0, .ref x0, .int et, .int wt, .int tm, .int sta, .int he, .int ac, .int ov])), (s0, .inr (7, [.ref s1, .ref s2, .ref s3, .int ((f_X5_dropBit t5.1 ((it_X2_endMajorCycle_15 dr bits ring slips pt fp on temps p0 k).2.2.2) (nI k) (((7 * p0) + (nI k)) % 640)).1)])), (s1, .inl (G.2.1.1, 256, .inl ((f_X5_dropBit t5.1 ((it_X2_endMajorCycle_15 dr bits ring slips pt fp on temps p0 k).2.2.2) (nI k) (((7 * p0) + (nI k)) % 640)).2))), (s2, .inl (G.2.1.1, 32, .inl t5.2.1)), (s3, .inl (G.2.1.1, 8, .inl t5.2.2)), (k0, .inr (4, [.ref k1, .int pt, .int ot, .int fp, .int on])), (k1, .inl (G.2.1.1, 8, .inl temps))]) F (c_X5_dropBit l G s0 s1 s2 s3 t5.1 ((it_X2_endMajorCycle_15 dr bits ring slips pt fp on temps p0 k).2.2.2) (nI k) (((7 * p0) + (nI k)) % 640)) okV_X5_dropBit k_ml_X2_159 rfl rfl ⟨Nat.le_of_ble_eq_true rfl, Nat.le_of_ble_eq_true rfl⟩ hN hK hP hD hS hA [1, 2] [0, 3, 4, 5, 6] [0, 5, 6, 1, 2, 3, 4] (by decide) rfl rfl (by decide) (by decide) (by decide) rfl (q0 := 1) rfl rfl rfl rfl hl.1 (Nat.le_of_ble_eq_true rfl) dX2_endMajorCycle_88 ⟨Nat.le_refl _, Nat.le_refl _⟩ (fun H locs hP hD hS => ?_)
            generalize et7 : (f_X5_dropBit t5.1 ((it_X2_endMajorCycle_15 dr bits ring slips pt fp on temps p0 k).2.2.2) (nI k) (((7 * p0) + (nI k)) % 640)) = t7 at hP hD ⊢
            refine lv_iinc (v := (nI (k + 1))) (lv' := [(3, .int (nI (k + 1))), (5, .int (f_J9_floorDiv_7cf53 ((f_X6_mismatchOf (f_X1_temperatureOf temps (nI k)) (f_X1_clockPeriod pt fp on)) + ((f_X1_clockPeriod pt fp on) / 2)) (f_X1_clockPeriod pt fp on))), (4, .int (f_X6_mismatchOf (f_X1_temperatureOf temps (nI k)) (f_X1_clockPeriod pt fp on))), (2, .int (f_X1_clockPeriod pt fp on)), (0, .ref c0), (1, .int p0)]) hx hb dX2_endMajorCycle_91 hl (k := 2) rfl (nI_1 k) (by decide) rfl (fun ls hl => ?_)
            refine lv_goto (tgt := 15) hx hb dX2_endMajorCycle_94 (by decide) ?_
            have ek : (it_X2_endMajorCycle_15 dr bits ring slips pt fp on temps p0 (k + 1)) = (t7.2, t5.2.1, t5.2.2, t7.1) := (by subst et7; subst et5; exact (if_neg c_6))
            exact ih (k + 1) (by omega) _ _ (by rw [ek]; exact hP) (by rw [ek]; exact hD) hS ls (lv_sub hl [0, 3, 4, 5] rfl)
    exact loop_15 8 0 (by omega) _ _ hP hD hS ls (lv_sub hl [0, 1, 2, 3] rfl)
  · skip
    have ef : (f_X2_endMajorCycle dr bits ring slips pt ot fp on temps p0) = (dr, bits, ring, slips, pt, temps) := (if_neg c_1)
    exact gRetV F hr hlocks hK hP hD hS rfl (by rw [ef]) (Nat.le_of_ble_eq_true rfl) (Nat.le_of_ble_eq_true rfl) dX2_endMajorCycle_12
theorem okV_X2_endMajorCycle : gOkV yX2_endMajorCycle cX2_endMajorCycle 6 none 1 := ⟨⟨k_im_X2_endMajorCycle, k_se_X2_endMajorCycle, k_in_X2, k_cd_X2_endMajorCycle⟩, by decide, by decide, by decide +kernel⟩
