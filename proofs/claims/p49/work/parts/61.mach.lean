def gR (l : List Nat) (i : Nat) : Option Nat := l[i]?
theorem gR_up {l : List Nat} {i v n : Nat} (h : i < n) (hl : l.length = n) : va_up (gR l) i (some v) = gR (l.set i v) := by
  funext j
  unfold va_up gR
  by_cases e : j = i
  · subst e
    rw [if_pos rfl, List.getElem?_set_self (by omega)]
  · rw [if_neg e, List.getElem?_set_ne (Ne.symm e)]
theorem g18 {k : Nat} (h : k < 19) : ¬ ((18 : Int32) - nI k < 0) := by
  rw [gI_lt]
  have o : (18 : Int32).toInt = 18 := (by decide)
  have z : (0 : Int32).toInt = 0 := (by decide)
  have e := nI_toInt (n := k) (by omega)
  have e1 := gI_sub (x := 18) (y := nI k) (by omega) (by omega)
  omega
theorem g18s (k : Nat) : ((18 : Int32) - nI k) + (-1) = 18 - nI (k + 1) := by
  rw [← nI_1 k, Int32.sub_eq_add_neg, Int32.sub_eq_add_neg, Int32.neg_add, Int32.add_assoc, Int32.sub_eq_add_neg]
def f_X7_next (dx : Int32) (p0 : Int32) : Int32 × Int32 :=
  (((gUshr ((dx * 1103515245) + 12345) 16) % p0), ((dx * 1103515245) + 12345))
set_option maxRecDepth 100000 in
set_option maxHeartbeats 4000000 in
theorem c_X7_next (l : Launch) (G : gG) (d0 : Nat) (dx : Int32) (p0 : Int32) (hy : ¬ p0 = 0) : gM l G yX7_next cX7_next 2 (some .int) { frames := 0, cells := 0, slots := 0, locals := 0 } [.ref d0, .int p0] [(d0, .inr (9, [.int dx]))] (some (.int ((f_X7_next dx p0).1))) [(d0, .inr (9, [.int ((f_X7_next dx p0).2)]))] 0 0 := by
  refine gBegin (by decide +kernel) (Nat.le_of_ble_eq_true rfl) (fun p e s m args below meth c A F hr hlocks hname hN hK hP hD hA hS ls hl => ?_)
  obtain ⟨hx, hb, hml, hown, hts⟩ := id F
  replace hP : va_P G.1 vwCl [(d0, .inr (9, [.int dx]))] s.heap := hP
  replace hl : lv_has ls 2 [(0, .ref d0), (1, .int p0)] := hl
  refine lv_aload_n hx hb dX7_next_0 rfl (lv_at hl 0 rfl) ?_
  refine lv_aload_n hx hb dX7_next_1 rfl (lv_at hl 0 rfl) ?_
  refine va_get (D := G.1) (ci := 9) (v := .int dx) (C := RX7) (T := TX7) (N := 1) hx hb hts in_X7 hown hK hP 0 rfl rfl 0 (by decide) (hts _ k_fl_X7_7) (fun _ h9 => h9) rfl dX7_next_2 ?_
  refine lv_ldc (v := 1103515245) hx hb hown (hts _ k_co_X7_13) dX7_next_5 ?_
  refine lv_imul hx hb dX7_next_7 ?_
  refine lv_sipush (v := 12345) hx hb dX7_next_8 (by decide) ?_
  refine lv_iadd hx hb dX7_next_11 ?_
  refine va_put (D := G.1) (ci := 9) (v := .int ((dx * 1103515245) + 12345)) (ty := .int) (C := RX7) (T := TX7) (N := 1) hx hb hts in_X7 tyX7 tyX7_ok nmX7 hown hK hP hD hS 0 rfl rfl 0 (by decide) (hts _ k_fl_X7_7) (fun _ h9 => h9) rfl (by decide +kernel) rfl rfl (Nat.le_of_ble_eq_true rfl) dX7_next_12 (fun H locs hP hD hS => ?_)
  replace hP : va_P G.1 vwCl [(d0, .inr (9, [.int ((dx * 1103515245) + 12345)]))] H := hP
  replace hD : va_D A [(d0, .inr (9, [.int ((dx * 1103515245) + 12345)]))] := hD
  refine lv_aload_n hx hb dX7_next_15 rfl (lv_at hl 0 rfl) ?_
  refine va_get (D := G.1) (ci := 9) (v := .int ((dx * 1103515245) + 12345)) (C := RX7) (T := TX7) (N := 1) hx hb hts in_X7 hown hK hP 0 rfl rfl 0 (by decide) (hts _ k_fl_X7_7) (fun _ h9 => h9) rfl dX7_next_16 ?_
  refine lv_bipush (v := 16) hx hb dX7_next_19 (by decide) ?_
  refine lv_iushr (v := (gUshr ((dx * 1103515245) + 12345) 16)) hx hb dX7_next_21 rfl ?_
  refine lv_iload_n hx hb dX7_next_22 rfl (lv_at hl 1 rfl) ?_
  refine gIrem hx hb dX7_next_23 hy ?_
  exact gRetI F hr hlocks hK hP hD hS rfl rfl (Nat.le_of_ble_eq_true rfl) (Nat.le_of_ble_eq_true rfl) dX7_next_24
theorem okV_X7_next : gOkV yX7_next cX7_next 2 (some .int) 1 := ⟨⟨k_im_X7_next, k_se_X7_next, k_in_X7, k_cd_X7_next⟩, by decide, by decide, by decide +kernel⟩
def f_X8_period (Mpi : Int32) (Mfx : Int32) (Mip : Int32) : Int32 :=
  if Mip = 0 then
    Mfx
  else
    ((640000000 + (19200 * (Mpi - 400))) / 640)
set_option maxRecDepth 100000 in
set_option maxHeartbeats 4000000 in
theorem c_X8_period (l : Launch) (G : gG) (m0 : Nat) (bb : Nat) (wm : Nat) (sl : Nat) (cq : Nat) (ii : Nat) (oo : Nat) (Mtm : Int32) (Mac : Int32) (Mtk : Int32) (Mcy : Int32) (Msta : Int32) (Mdn : Int32) (Mwt : Int32) (Mdr : Int32) (Mov : Int32) (Mpi : Int32) (Mfx : Int32) (Mip : Int32) (Mio : Int32) : gM l G yX8_period cX8_period 1 (some .int) { frames := 0, cells := 0, slots := 0, locals := 0 } [.ref m0] [(m0, .inr (10, [.ref bb, .ref wm, .ref sl, .ref cq, .ref ii, .ref oo, .int Mtm, .int Mac, .int Mtk, .int Mcy, .int Msta, .int Mdn, .int Mwt, .int Mdr, .int Mov, .int Mpi, .int Mfx, .int Mip, .int Mio]))] (some (.int (f_X8_period Mpi Mfx Mip))) [(m0, .inr (10, [.ref bb, .ref wm, .ref sl, .ref cq, .ref ii, .ref oo, .int Mtm, .int Mac, .int Mtk, .int Mcy, .int Msta, .int Mdn, .int Mwt, .int Mdr, .int Mov, .int Mpi, .int Mfx, .int Mip, .int Mio]))] 0 0 := by
  refine gBegin (by decide +kernel) (Nat.le_of_ble_eq_true rfl) (fun p e s m args below meth c A F hr hlocks hname hN hK hP hD hA hS ls hl => ?_)
  obtain ⟨hx, hb, hml, hown, hts⟩ := id F
  replace hP : va_P G.1 vwCl [(m0, .inr (10, [.ref bb, .ref wm, .ref sl, .ref cq, .ref ii, .ref oo, .int Mtm, .int Mac, .int Mtk, .int Mcy, .int Msta, .int Mdn, .int Mwt, .int Mdr, .int Mov, .int Mpi, .int Mfx, .int Mip, .int Mio]))] s.heap := hP
  replace hl : lv_has ls 1 [(0, .ref m0)] := hl
  refine lv_aload_n hx hb dX8_period_0 rfl (lv_at hl 0 rfl) ?_
  refine va_get (D := G.1) (ci := 10) (v := .int Mip) (C := RX8) (T := TX8) (N := 19) hx hb hts in_X8 hown hK hP 0 rfl rfl 17 (by decide) (hts _ k_fl_X8_84) (fun _ h9 => h9) rfl dX8_period_1 ?_
  refine lv_if_eq (tgt := 29) hx hb dX8_period_4 (by decide) (fun c_1 => ?_) (fun c_1 => ?_)
  · skip
    refine lv_aload_n hx hb dX8_period_29 rfl (lv_at hl 0 rfl) ?_
    refine va_get (D := G.1) (ci := 10) (v := .int Mfx) (C := RX8) (T := TX8) (N := 19) hx hb hts in_X8 hown hK hP 0 rfl rfl 16 (by decide) (hts _ k_fl_X8_47) (fun _ h9 => h9) rfl dX8_period_30 ?_
    have ef : (f_X8_period Mpi Mfx Mip) = Mfx := (if_pos c_1)
    exact gRetI F hr hlocks hK hP hD hS (by rw [ef]) rfl (Nat.le_of_ble_eq_true rfl) (Nat.le_of_ble_eq_true rfl) dX8_period_33
  · skip
    refine lv_ldc (v := 640000000) hx hb hown (hts _ k_co_X8_91) dX8_period_7 ?_
    refine lv_sipush (v := 19200) hx hb dX8_period_9 (by decide) ?_
    refine lv_aload_n hx hb dX8_period_12 rfl (lv_at hl 0 rfl) ?_
    refine va_get (D := G.1) (ci := 10) (v := .int Mpi) (C := RX8) (T := TX8) (N := 19) hx hb hts in_X8 hown hK hP 0 rfl rfl 15 (by decide) (hts _ k_fl_X8_43) (fun _ h9 => h9) rfl dX8_period_13 ?_
    refine lv_sipush (v := 400) hx hb dX8_period_16 (by decide) ?_
    refine lv_isub hx hb dX8_period_19 ?_
    refine lv_imul hx hb dX8_period_20 ?_
    refine lv_iadd hx hb dX8_period_21 ?_
    refine lv_sipush (v := 640) hx hb dX8_period_22 (by decide) ?_
    refine lv_idiv hx hb dX8_period_25 (by decide) ?_
    refine lv_goto (tgt := 33) hx hb dX8_period_26 (by decide) ?_
    have ef : (f_X8_period Mpi Mfx Mip) = ((640000000 + (19200 * (Mpi - 400))) / 640) := (if_neg c_1)
    exact gRetI F hr hlocks hK hP hD hS (by rw [ef]) rfl (Nat.le_of_ble_eq_true rfl) (Nat.le_of_ble_eq_true rfl) dX8_period_33
theorem okV_X8_period : gOkV yX8_period cX8_period 1 (some .int) 0 := ⟨⟨k_im_X8_period, k_se_X8_period, k_in_X8, k_cd_X8_period⟩, by decide, by decide, by decide +kernel⟩
def f_X8_mismatch (Mpi : Int32) (Mfx : Int32) (Mip : Int32) (p0 : Int32) : Int32 :=
  ((640000000 + (19200 * (p0 - 400))) - (640 * (f_X8_period Mpi Mfx Mip)))
set_option maxRecDepth 100000 in
set_option maxHeartbeats 4000000 in
theorem c_X8_mismatch (l : Launch) (G : gG) (m0 : Nat) (bb : Nat) (wm : Nat) (sl : Nat) (cq : Nat) (ii : Nat) (oo : Nat) (Mtm : Int32) (Mac : Int32) (Mtk : Int32) (Mcy : Int32) (Msta : Int32) (Mdn : Int32) (Mwt : Int32) (Mdr : Int32) (Mov : Int32) (Mpi : Int32) (Mfx : Int32) (Mip : Int32) (Mio : Int32) (p0 : Int32) : gM l G yX8_mismatch cX8_mismatch 2 (some .int) { frames := 1, cells := 0, slots := 0, locals := 20 } [.ref m0, .int p0] [(m0, .inr (10, [.ref bb, .ref wm, .ref sl, .ref cq, .ref ii, .ref oo, .int Mtm, .int Mac, .int Mtk, .int Mcy, .int Msta, .int Mdn, .int Mwt, .int Mdr, .int Mov, .int Mpi, .int Mfx, .int Mip, .int Mio]))] (some (.int (f_X8_mismatch Mpi Mfx Mip p0))) [(m0, .inr (10, [.ref bb, .ref wm, .ref sl, .ref cq, .ref ii, .ref oo, .int Mtm, .int Mac, .int Mtk, .int Mcy, .int Msta, .int Mdn, .int Mwt, .int Mdr, .int Mov, .int Mpi, .int Mfx, .int Mip, .int Mio]))] 0 0 := by
  refine gBegin (by decide +kernel) (Nat.le_of_ble_eq_true rfl) (fun p e s m args below meth c A F hr hlocks hname hN hK hP hD hA hS ls hl => ?_)
  obtain ⟨hx, hb, hml, hown, hts⟩ := id F
  replace hP : va_P G.1 vwCl [(m0, .inr (10, [.ref bb, .ref wm, .ref sl, .ref cq, .ref ii, .ref oo, .int Mtm, .int Mac, .int Mtk, .int Mcy, .int Msta, .int Mdn, .int Mwt, .int Mdr, .int Mov, .int Mpi, .int Mfx, .int Mip, .int Mio]))] s.heap := hP
  replace hl : lv_has ls 2 [(0, .ref m0), (1, .int p0)] := hl
  refine lv_ldc (v := 640000000) hx hb hown (hts _ k_co_X8_91) dX8_mismatch_0 ?_
  refine lv_sipush (v := 19200) hx hb dX8_mismatch_2 (by decide) ?_
  refine lv_iload_n hx hb dX8_mismatch_5 rfl (lv_at hl 1 rfl) ?_
  refine lv_sipush (v := 400) hx hb dX8_mismatch_6 (by decide) ?_
  refine lv_isub hx hb dX8_mismatch_9 ?_
  refine lv_imul hx hb dX8_mismatch_10 ?_
  refine lv_iadd hx hb dX8_mismatch_11 ?_
  refine lv_sipush (v := 640) hx hb dX8_mismatch_12 (by decide) ?_
  refine lv_aload_n hx hb dX8_mismatch_15 rfl (lv_at hl 0 rfl) ?_
  refine gV (As := []) (rest := [.int 640, .int (640000000 + (19200 * (p0 - 400)))]) (wr := []) (ws' := [(m0, .inr (10, [.ref bb, .ref wm, .ref sl, .ref cq, .ref ii, .ref oo, .int Mtm, .int Mac, .int Mtk, .int Mcy, .int Msta, .int Mdn, .int Mwt, .int Mdr, .int Mov, .int Mpi, .int Mfx, .int Mip, .int Mio]))]) F (c_X8_period l G m0 bb wm sl cq ii oo Mtm Mac Mtk Mcy Msta Mdn Mwt Mdr Mov Mpi Mfx Mip Mio) okV_X8_period k_ml_X8_92 rfl rfl ⟨Nat.le_of_ble_eq_true rfl, Nat.le_of_ble_eq_true rfl⟩ hN hK hP hD hS hA [0] [] [0] (by decide) rfl rfl (by decide) (by decide) (by decide) rfl (q0 := 0) rfl rfl rfl rfl hl.1 (Nat.le_of_ble_eq_true rfl) dX8_mismatch_16 ⟨Nat.le_refl _, Nat.le_refl _⟩ (fun H locs hP hD hS => ?_)
  refine lv_imul hx hb dX8_mismatch_19 ?_
  refine lv_isub hx hb dX8_mismatch_20 ?_
  exact gRetI F hr hlocks hK hP hD hS rfl rfl (Nat.le_of_ble_eq_true rfl) (Nat.le_of_ble_eq_true rfl) dX8_mismatch_21
theorem okV_X8_mismatch : gOkV yX8_mismatch cX8_mismatch 2 (some .int) 1 := ⟨⟨k_im_X8_mismatch, k_se_X8_mismatch, k_in_X8, k_cd_X8_mismatch⟩, by decide, by decide, by decide +kernel⟩
def st_X8_warms_2 (Mov : Int32) (k : Nat) (v0_ : Nat → Int32) : (Nat → Int32) :=
  (upd v0_ k ((v0_ k) + ((Mov - (v0_ k)) / 8)))
def it_X8_warms_2 (Mov : Int32) (warm : Nat → Int32) : Nat → (Nat → Int32)
  | 0 => warm
  | i + 1 => st_X8_warms_2 Mov i (it_X8_warms_2 Mov warm i)
def f_X8_warms (Mov : Int32) (Mpi : Int32) (warm : Nat → Int32) : Int32 × (Nat → Int32) :=
  ((Mpi + ((Mov - Mpi) / 8)), (it_X8_warms_2 Mov warm 8))
set_option maxRecDepth 100000 in
set_option maxHeartbeats 4000000 in
theorem c_X8_warms (l : Launch) (G : gG) (m0 : Nat) (bb : Nat) (wm : Nat) (sl : Nat) (cq : Nat) (ii : Nat) (oo : Nat) (Mtm : Int32) (Mac : Int32) (Mtk : Int32) (Mcy : Int32) (Msta : Int32) (Mdn : Int32) (Mwt : Int32) (Mdr : Int32) (Mov : Int32) (Mpi : Int32) (Mfx : Int32) (Mip : Int32) (Mio : Int32) (warm : Nat → Int32) : gM l G yX8_warms cX8_warms 2 none { frames := 0, cells := 0, slots := 0, locals := 0 } [.ref m0] [(m0, .inr (10, [.ref bb, .ref wm, .ref sl, .ref cq, .ref ii, .ref oo, .int Mtm, .int Mac, .int Mtk, .int Mcy, .int Msta, .int Mdn, .int Mwt, .int Mdr, .int Mov, .int Mpi, .int Mfx, .int Mip, .int Mio])), (wm, .inl (G.2.1.1, 8, .inl warm))] none [(m0, .inr (10, [.ref bb, .ref wm, .ref sl, .ref cq, .ref ii, .ref oo, .int Mtm, .int Mac, .int Mtk, .int Mcy, .int Msta, .int Mdn, .int Mwt, .int Mdr, .int Mov, .int ((f_X8_warms Mov Mpi warm).1), .int Mfx, .int Mip, .int Mio])), (wm, .inl (G.2.1.1, 8, .inl ((f_X8_warms Mov Mpi warm).2)))] 0 0 := by
  refine gBegin (by decide +kernel) (Nat.le_of_ble_eq_true rfl) (fun p e s m args below meth c A F hr hlocks hname hN hK hP hD hA hS ls hl => ?_)
  obtain ⟨hx, hb, hml, hown, hts⟩ := id F
  replace hP : va_P G.1 vwCl [(m0, .inr (10, [.ref bb, .ref wm, .ref sl, .ref cq, .ref ii, .ref oo, .int Mtm, .int Mac, .int Mtk, .int Mcy, .int Msta, .int Mdn, .int Mwt, .int Mdr, .int Mov, .int Mpi, .int Mfx, .int Mip, .int Mio])), (wm, .inl (G.2.1.1, 8, .inl warm))] s.heap := hP
  replace hl : lv_has ls 2 [(0, .ref m0)] := hl
  refine lv_iconst (v := 0) hx hb dX8_warms_0 (by decide) ?_
  refine lv_istore_n (lv' := [(1, .int 0), (0, .ref m0)]) hx hb dX8_warms_1 rfl hl (by decide) rfl (fun ls hl => ?_)
  have loop_2 : ∀ (fu k : Nat), k + fu = 8 → ∀ (H : Heap) (locs : List Loc), va_P G.1 vwCl [(m0, .inr (10, [.ref bb, .ref wm, .ref sl, .ref cq, .ref ii, .ref oo, .int Mtm, .int Mac, .int Mtk, .int Mcy, .int Msta, .int Mdn, .int Mwt, .int Mdr, .int Mov, .int Mpi, .int Mfx, .int Mip, .int Mio])), (wm, .inl (G.2.1.1, 8, .inl (it_X8_warms_2 Mov warm k)))] H → va_D A [(m0, .inr (10, [.ref bb, .ref wm, .ref sl, .ref cq, .ref ii, .ref oo, .int Mtm, .int Mac, .int Mtk, .int Mcy, .int Msta, .int Mdn, .int Mwt, .int Mdr, .int Mov, .int Mpi, .int Mfx, .int Mip, .int Mio])), (wm, .inl (G.2.1.1, 8, .inl (it_X8_warms_2 Mov warm k)))] → va_S A s.heap H locs → ∀ ls : Array Slot, lv_has ls 2 [(1, .int (nI k)), (0, .ref m0)] → W p l e { frames := 0, cells := 0, slots := 0, locals := 0 } s m args below meth c H locs 0 0 (MQ below (gQ G none [(m0, .inr (10, [.ref bb, .ref wm, .ref sl, .ref cq, .ref ii, .ref oo, .int Mtm, .int Mac, .int Mtk, .int Mcy, .int Msta, .int Mdn, .int Mwt, .int Mdr, .int Mov, .int ((f_X8_warms Mov Mpi warm).1), .int Mfx, .int Mip, .int Mio])), (wm, .inl (G.2.1.1, 8, .inl ((f_X8_warms Mov Mpi warm).2)))] A) args s 0 0 A) (F0 m 2 ls []) := by
    intro fu
    induction fu with
    | zero =>
      intro k hk H locs hP hD hS ls hl
      have ek : 8 = k := by omega
      subst ek
      replace hP : va_P G.1 vwCl [(m0, .inr (10, [.ref bb, .ref wm, .ref sl, .ref cq, .ref ii, .ref oo, .int Mtm, .int Mac, .int Mtk, .int Mcy, .int Msta, .int Mdn, .int Mwt, .int Mdr, .int Mov, .int Mpi, .int Mfx, .int Mip, .int Mio])), (wm, .inl (G.2.1.1, 8, .inl (it_X8_warms_2 Mov warm 8)))] H := hP
      replace hD : va_D A [(m0, .inr (10, [.ref bb, .ref wm, .ref sl, .ref cq, .ref ii, .ref oo, .int Mtm, .int Mac, .int Mtk, .int Mcy, .int Msta, .int Mdn, .int Mwt, .int Mdr, .int Mov, .int Mpi, .int Mfx, .int Mip, .int Mio])), (wm, .inl (G.2.1.1, 8, .inl (it_X8_warms_2 Mov warm 8)))] := hD
      replace hl : lv_has ls 2 [(1, .int (nI 8)), (0, .ref m0)] := hl
      refine lv_iload_n hx hb dX8_warms_2 rfl (lv_at hl 0 rfl) ?_
      refine lv_bipush (v := 8) hx hb dX8_warms_3 (by decide) ?_
      refine lv_icmp_ge (tgt := 37) hx hb dX8_warms_5 (by decide) (fun c_1 => ?_) (fun c_1 => ?_)
      · skip
        refine lv_aload_n hx hb dX8_warms_37 rfl (lv_at hl 1 rfl) ?_
        refine lv_dup hx hb dX8_warms_38 rfl ?_
        refine va_get (D := G.1) (ci := 10) (v := .int Mpi) (C := RX8) (T := TX8) (N := 19) hx hb hts in_X8 hown hK hP 0 rfl rfl 15 (by decide) (hts _ k_fl_X8_43) (fun _ h9 => h9) rfl dX8_warms_39 ?_
        refine lv_aload_n hx hb dX8_warms_42 rfl (lv_at hl 1 rfl) ?_
        refine va_get (D := G.1) (ci := 10) (v := .int Mov) (C := RX8) (T := TX8) (N := 19) hx hb hts in_X8 hown hK hP 0 rfl rfl 14 (by decide) (hts _ k_fl_X8_40) (fun _ h9 => h9) rfl dX8_warms_43 ?_
        refine lv_aload_n hx hb dX8_warms_46 rfl (lv_at hl 1 rfl) ?_
        refine va_get (D := G.1) (ci := 10) (v := .int Mpi) (C := RX8) (T := TX8) (N := 19) hx hb hts in_X8 hown hK hP 0 rfl rfl 15 (by decide) (hts _ k_fl_X8_43) (fun _ h9 => h9) rfl dX8_warms_47 ?_
        refine lv_isub hx hb dX8_warms_50 ?_
        refine lv_bipush (v := 8) hx hb dX8_warms_51 (by decide) ?_
        refine lv_idiv hx hb dX8_warms_53 (by decide) ?_
        refine lv_iadd hx hb dX8_warms_54 ?_
        refine va_put (D := G.1) (ci := 10) (v := .int (Mpi + ((Mov - Mpi) / 8))) (ty := .int) (C := RX8) (T := TX8) (N := 19) hx hb hts in_X8 tyX8 tyX8_ok nmX8 hown hK hP hD hS 0 rfl rfl 15 (by decide) (hts _ k_fl_X8_43) (fun _ h9 => h9) rfl (by decide +kernel) rfl rfl (Nat.le_of_ble_eq_true rfl) dX8_warms_55 (fun H locs hP hD hS => ?_)
        replace hP : va_P G.1 vwCl [(m0, .inr (10, [.ref bb, .ref wm, .ref sl, .ref cq, .ref ii, .ref oo, .int Mtm, .int Mac, .int Mtk, .int Mcy, .int Msta, .int Mdn, .int Mwt, .int Mdr, .int Mov, .int (Mpi + ((Mov - Mpi) / 8)), .int Mfx, .int Mip, .int Mio])), (wm, .inl (G.2.1.1, 8, .inl (it_X8_warms_2 Mov warm 8)))] H := hP
        replace hD : va_D A [(m0, .inr (10, [.ref bb, .ref wm, .ref sl, .ref cq, .ref ii, .ref oo, .int Mtm, .int Mac, .int Mtk, .int Mcy, .int Msta, .int Mdn, .int Mwt, .int Mdr, .int Mov, .int (Mpi + ((Mov - Mpi) / 8)), .int Mfx, .int Mip, .int Mio])), (wm, .inl (G.2.1.1, 8, .inl (it_X8_warms_2 Mov warm 8)))] := hD
        exact gRetV F hr hlocks hK hP hD hS rfl rfl (Nat.le_of_ble_eq_true rfl) (Nat.le_of_ble_eq_true rfl) dX8_warms_58
      · exact absurd (Int32.le_refl _) c_1
    | succ fu ih =>
      intro k hk H locs hP hD hS ls hl
      have hlt_k : k < 8 := by omega
      refine lv_iload_n hx hb dX8_warms_2 rfl (lv_at hl 0 rfl) ?_
      refine lv_bipush (v := 8) hx hb dX8_warms_3 (by decide) ?_
      refine lv_icmp_ge (tgt := 37) hx hb dX8_warms_5 (by decide) (fun c_2 => ?_) (fun c_2 => ?_)
      · exact absurd c_2 (nI_ge hlt_k (by decide))
      · skip
        refine lv_aload_n hx hb dX8_warms_8 rfl (lv_at hl 1 rfl) ?_
        refine va_get (D := G.1) (ci := 10) (v := .ref wm) (C := RX8) (T := TX8) (N := 19) hx hb hts in_X8 hown hK hP 0 rfl rfl 1 (by decide) (hts _ k_fl_X8_14) (fun _ h9 => h9) rfl dX8_warms_9 ?_
        refine lv_iload_n hx hb dX8_warms_12 rfl (lv_at hl 0 rfl) ?_
        refine lv_dup2_11 hx hb dX8_warms_13 rfl rfl ?_
        refine gIald (k := k) hx hb hK hP 1 0 rfl rfl (nI_clamp (by omega)) (vp_in_nI (Nat.lt_of_lt_of_le hlt_k (Nat.le_of_ble_eq_true rfl)) (by decide)) dX8_warms_14 ?_
        refine lv_aload_n hx hb dX8_warms_15 rfl (lv_at hl 1 rfl) ?_
        refine va_get (D := G.1) (ci := 10) (v := .int Mov) (C := RX8) (T := TX8) (N := 19) hx hb hts in_X8 hown hK hP 0 rfl rfl 14 (by decide) (hts _ k_fl_X8_40) (fun _ h9 => h9) rfl dX8_warms_16 ?_
        refine lv_aload_n hx hb dX8_warms_19 rfl (lv_at hl 1 rfl) ?_
        refine va_get (D := G.1) (ci := 10) (v := .ref wm) (C := RX8) (T := TX8) (N := 19) hx hb hts in_X8 hown hK hP 0 rfl rfl 1 (by decide) (hts _ k_fl_X8_14) (fun _ h9 => h9) rfl dX8_warms_20 ?_
        refine lv_iload_n hx hb dX8_warms_23 rfl (lv_at hl 0 rfl) ?_
        refine gIald (k := k) hx hb hK hP 1 0 rfl rfl (nI_clamp (by omega)) (vp_in_nI (Nat.lt_of_lt_of_le hlt_k (Nat.le_of_ble_eq_true rfl)) (by decide)) dX8_warms_24 ?_
        refine lv_isub hx hb dX8_warms_25 ?_
        refine lv_bipush (v := 8) hx hb dX8_warms_26 (by decide) ?_
        refine lv_idiv hx hb dX8_warms_28 (by decide) ?_
        refine lv_iadd hx hb dX8_warms_29 ?_
        refine gIast (k := k) hx hb hK hP hD hS 1 0 rfl rfl (nI_clamp (by omega)) (vp_in_nI (Nat.lt_of_lt_of_le hlt_k (Nat.le_of_ble_eq_true rfl)) (by decide)) dX8_warms_30 (fun H locs hP hD hS => ?_)
        replace hP : va_P G.1 vwCl [(m0, .inr (10, [.ref bb, .ref wm, .ref sl, .ref cq, .ref ii, .ref oo, .int Mtm, .int Mac, .int Mtk, .int Mcy, .int Msta, .int Mdn, .int Mwt, .int Mdr, .int Mov, .int Mpi, .int Mfx, .int Mip, .int Mio])), (wm, .inl (G.2.1.1, 8, .inl (upd (it_X8_warms_2 Mov warm k) k (((it_X8_warms_2 Mov warm k) k) + ((Mov - ((it_X8_warms_2 Mov warm k) k)) / 8)))))] H := hP
        replace hD : va_D A [(m0, .inr (10, [.ref bb, .ref wm, .ref sl, .ref cq, .ref ii, .ref oo, .int Mtm, .int Mac, .int Mtk, .int Mcy, .int Msta, .int Mdn, .int Mwt, .int Mdr, .int Mov, .int Mpi, .int Mfx, .int Mip, .int Mio])), (wm, .inl (G.2.1.1, 8, .inl (upd (it_X8_warms_2 Mov warm k) k (((it_X8_warms_2 Mov warm k) k) + ((Mov - ((it_X8_warms_2 Mov warm k) k)) / 8)))))] := hD
        refine lv_iinc (v := (nI (k + 1))) (lv' := [(1, .int (nI (k + 1))), (0, .ref m0)]) hx hb dX8_warms_31 hl (k := 0) rfl (nI_1 k) (by decide) rfl (fun ls hl => ?_)
        refine lv_goto (tgt := 2) hx hb dX8_warms_34 (by decide) ?_
        have ek : (it_X8_warms_2 Mov warm (k + 1)) = (upd (it_X8_warms_2 Mov warm k) k (((it_X8_warms_2 Mov warm k) k) + ((Mov - ((it_X8_warms_2 Mov warm k) k)) / 8))) := rfl
        exact ih (k + 1) (by omega) _ _ (by rw [ek]; exact hP) (by rw [ek]; exact hD) hS ls (lv_sub hl [0, 1] rfl)
  exact loop_2 8 0 (by omega) _ _ hP hD hS ls (lv_sub hl [0, 1] rfl)
theorem okV_X8_warms : gOkV yX8_warms cX8_warms 2 none 0 := ⟨⟨k_im_X8_warms, k_se_X8_warms, k_in_X8, k_cd_X8_warms⟩, by decide, by decide, by decide +kernel⟩
def st_X8_word_27 (b : Nat → Int32) (p1 : Int32) (k : Nat) (v0_ : Int32) : Int32 :=
  if (b (Int32.toNatClampNeg ((20 * p1) + (18 - (nI k))))) = 0 then
    ((v0_ * 2) + 0)
  else
    ((v0_ * 2) + 1)
def it_X8_word_27 (b : Nat → Int32) (p1 : Int32) : Nat → Int32
  | 0 => 0
  | i + 1 => st_X8_word_27 b p1 i (it_X8_word_27 b p1 i)
def st_X8_word_27_e1 (b : Nat → Int32) (p1 : Int32) (k : Nat) (v0_ : Int32) : Int32 :=
  if (b (Int32.toNatClampNeg ((20 * p1) + (18 - (nI k))))) = 0 then
    ((v0_ * 2) + 0)
  else
    ((v0_ * 2) + 1)
def it_X8_word_27_e1 (b : Nat → Int32) (p1 : Int32) : Nat → Int32
  | 0 => (-1)
  | i + 1 => st_X8_word_27_e1 b p1 i (it_X8_word_27_e1 b p1 i)
def f_X8_word (b : Nat → Int32) (p1 : Int32) : Int32 :=
  if (b (Int32.toNatClampNeg ((20 * p1) + 19))) = 0 then
    (it_X8_word_27 b p1 19)
  else
    (it_X8_word_27_e1 b p1 19)
set_option maxRecDepth 100000 in
set_option maxHeartbeats 4000000 in
theorem c_X8_word (l : Launch) (G : gG) (m0 : Nat) (bb : Nat) (wm : Nat) (sl : Nat) (cq : Nat) (ii : Nat) (oo : Nat) (Mtm : Int32) (Mac : Int32) (Mtk : Int32) (Mcy : Int32) (Msta : Int32) (Mdn : Int32) (Mwt : Int32) (Mdr : Int32) (Mov : Int32) (Mpi : Int32) (Mfx : Int32) (Mip : Int32) (Mio : Int32) (r0 : Nat) (fz : Nat → Option Nat) (b : Nat → Int32) (p0 : Int32) (p1 : Int32) (hz : fz (Int32.toNatClampNeg p0) = some r0) (hk0 : 0 ≤ p0.toInt ∧ p0.toInt < 8) (hk1 : 0 ≤ p1.toInt ∧ p1.toInt < 32) : gM l G yX8_word cX8_word 5 (some .int) { frames := 0, cells := 0, slots := 0, locals := 0 } [.ref m0, .int p0, .int p1] [(m0, .inr (10, [.ref bb, .ref wm, .ref sl, .ref cq, .ref ii, .ref oo, .int Mtm, .int Mac, .int Mtk, .int Mcy, .int Msta, .int Mdn, .int Mwt, .int Mdr, .int Mov, .int Mpi, .int Mfx, .int Mip, .int Mio])), (bb, .inl (G.2.1.2.2.2.1, 8, .inr (.inr (.inr (.inr fz))))), (r0, .inl (G.2.1.2.1, 640, .inl b))] (some (.int (f_X8_word b p1))) [(m0, .inr (10, [.ref bb, .ref wm, .ref sl, .ref cq, .ref ii, .ref oo, .int Mtm, .int Mac, .int Mtk, .int Mcy, .int Msta, .int Mdn, .int Mwt, .int Mdr, .int Mov, .int Mpi, .int Mfx, .int Mip, .int Mio])), (bb, .inl (G.2.1.2.2.2.1, 8, .inr (.inr (.inr (.inr fz))))), (r0, .inl (G.2.1.2.1, 640, .inl b))] 0 0 := by
  refine gBegin (by decide +kernel) (Nat.le_of_ble_eq_true rfl) (fun p e s m args below meth c A F hr hlocks hname hN hK hP hD hA hS ls hl => ?_)
  obtain ⟨hx, hb, hml, hown, hts⟩ := id F
  replace hP : va_P G.1 vwCl [(m0, .inr (10, [.ref bb, .ref wm, .ref sl, .ref cq, .ref ii, .ref oo, .int Mtm, .int Mac, .int Mtk, .int Mcy, .int Msta, .int Mdn, .int Mwt, .int Mdr, .int Mov, .int Mpi, .int Mfx, .int Mip, .int Mio])), (bb, .inl (G.2.1.2.2.2.1, 8, .inr (.inr (.inr (.inr fz))))), (r0, .inl (G.2.1.2.1, 640, .inl b))] s.heap := hP
  replace hl : lv_has ls 5 [(0, .ref m0), (1, .int p0), (2, .int p1)] := hl
  refine lv_aload_n hx hb dX8_word_0 rfl (lv_at hl 0 rfl) ?_
  refine va_get (D := G.1) (ci := 10) (v := .ref bb) (C := RX8) (T := TX8) (N := 19) hx hb hts in_X8 hown hK hP 0 rfl rfl 0 (by decide) (hts _ k_fl_X8_9) (fun _ h9 => h9) rfl dX8_word_1 ?_
  refine lv_iload_n hx hb dX8_word_4 rfl (lv_at hl 1 rfl) ?_
  refine gAald (r := r0) hx hb hK hP 1 3 rfl rfl rfl hz (by (try rw [vp_in_iff]); omega) dX8_word_5 ?_
  refine lv_bipush (v := 20) hx hb dX8_word_6 (by decide) ?_
  refine lv_iload_n hx hb dX8_word_8 rfl (lv_at hl 2 rfl) ?_
  refine lv_imul hx hb dX8_word_9 ?_
  refine lv_bipush (v := 19) hx hb dX8_word_10 (by decide) ?_
  refine lv_iadd hx hb dX8_word_12 ?_
  refine va_zald hx hb hK hP 2 1 rfl rfl (by have z0 : (20 : Int32).toInt = 20 := (by decide); (try have z2 := gI_mul (x := 20) (y := p1) (by (try rw [z0]); (try rw [z1]); omega) (by (try rw [z0]); (try rw [z1]); omega)); (try rw [z0, z1] at z2); (try rw [z0] at z2); (try rw [z1] at z2); have z3 : (19 : Int32).toInt = 19 := (by decide); (try have z4 := gI_add (x := (20 * p1)) (y := 19) (by omega) (by omega)); (try rw [vp_in_iff]); omega) dX8_word_13 ?_
  refine lv_if_eq (tgt := 21) hx hb dX8_word_14 (by decide) (fun c_1 => ?_) (fun c_1 => ?_)
  · skip
    refine lv_iconst (v := 0) hx hb dX8_word_21 (by decide) ?_
    refine lv_istore_n (lv' := [(3, .int 0), (0, .ref m0), (1, .int p0), (2, .int p1)]) hx hb dX8_word_22 rfl hl (by decide) rfl (fun ls hl => ?_)
    refine lv_bipush (v := 18) hx hb dX8_word_23 (by decide) ?_
    refine lv_istore (lv' := [(4, .int 18), (3, .int 0), (0, .ref m0), (1, .int p0), (2, .int p1)]) hx hb dX8_word_25 hl (by decide) rfl (fun ls hl => ?_)
    have loop_27 : ∀ (fu k : Nat), k + fu = 19 → ∀ (H : Heap) (locs : List Loc), va_P G.1 vwCl [(m0, .inr (10, [.ref bb, .ref wm, .ref sl, .ref cq, .ref ii, .ref oo, .int Mtm, .int Mac, .int Mtk, .int Mcy, .int Msta, .int Mdn, .int Mwt, .int Mdr, .int Mov, .int Mpi, .int Mfx, .int Mip, .int Mio])), (bb, .inl (G.2.1.2.2.2.1, 8, .inr (.inr (.inr (.inr fz))))), (r0, .inl (G.2.1.2.1, 640, .inl b))] H → va_D A [(m0, .inr (10, [.ref bb, .ref wm, .ref sl, .ref cq, .ref ii, .ref oo, .int Mtm, .int Mac, .int Mtk, .int Mcy, .int Msta, .int Mdn, .int Mwt, .int Mdr, .int Mov, .int Mpi, .int Mfx, .int Mip, .int Mio])), (bb, .inl (G.2.1.2.2.2.1, 8, .inr (.inr (.inr (.inr fz))))), (r0, .inl (G.2.1.2.1, 640, .inl b))] → va_S A s.heap H locs → ∀ ls : Array Slot, lv_has ls 5 [(4, .int (18 - (nI k))), (3, .int (it_X8_word_27 b p1 k)), (0, .ref m0), (1, .int p0), (2, .int p1)] → W p l e { frames := 0, cells := 0, slots := 0, locals := 0 } s m args below meth c H locs 0 0 (MQ below (gQ G (some (.int (f_X8_word b p1))) [(m0, .inr (10, [.ref bb, .ref wm, .ref sl, .ref cq, .ref ii, .ref oo, .int Mtm, .int Mac, .int Mtk, .int Mcy, .int Msta, .int Mdn, .int Mwt, .int Mdr, .int Mov, .int Mpi, .int Mfx, .int Mip, .int Mio])), (bb, .inl (G.2.1.2.2.2.1, 8, .inr (.inr (.inr (.inr fz))))), (r0, .inl (G.2.1.2.1, 640, .inl b))] A) args s 0 0 A) (F0 m 27 ls []) := by
      intro fu
      induction fu with
      | zero =>
        intro k hk H locs hP hD hS ls hl
        have ek : 19 = k := by omega
        subst ek
        replace hP : va_P G.1 vwCl [(m0, .inr (10, [.ref bb, .ref wm, .ref sl, .ref cq, .ref ii, .ref oo, .int Mtm, .int Mac, .int Mtk, .int Mcy, .int Msta, .int Mdn, .int Mwt, .int Mdr, .int Mov, .int Mpi, .int Mfx, .int Mip, .int Mio])), (bb, .inl (G.2.1.2.2.2.1, 8, .inr (.inr (.inr (.inr fz))))), (r0, .inl (G.2.1.2.1, 640, .inl b))] H := hP
        replace hD : va_D A [(m0, .inr (10, [.ref bb, .ref wm, .ref sl, .ref cq, .ref ii, .ref oo, .int Mtm, .int Mac, .int Mtk, .int Mcy, .int Msta, .int Mdn, .int Mwt, .int Mdr, .int Mov, .int Mpi, .int Mfx, .int Mip, .int Mio])), (bb, .inl (G.2.1.2.2.2.1, 8, .inr (.inr (.inr (.inr fz))))), (r0, .inl (G.2.1.2.1, 640, .inl b))] := hD
        replace hl : lv_has ls 5 [(4, .int (18 - (nI 19))), (3, .int (it_X8_word_27 b p1 19)), (0, .ref m0), (1, .int p0), (2, .int p1)] := hl
        refine lv_iload hx hb dX8_word_27 (lv_at hl 0 rfl) ?_
        refine lv_if_lt (tgt := 65) hx hb dX8_word_29 (by decide) (fun c_2 => ?_) (fun c_2 => ?_)
        · skip
          refine lv_iload_n hx hb dX8_word_65 rfl (lv_at hl 1 rfl) ?_
          have ef : (f_X8_word b p1) = (it_X8_word_27 b p1 19) := (if_pos c_1)
          exact gRetI F hr hlocks hK hP hD hS (by rw [ef]) rfl (Nat.le_of_ble_eq_true rfl) (Nat.le_of_ble_eq_true rfl) dX8_word_66
        · exact absurd (by decide : (18 : Int32) - nI 19 < 0) c_2
      | succ fu ih =>
        intro k hk H locs hP hD hS ls hl
        have hlt_k : k < 19 := by omega
        refine lv_iload hx hb dX8_word_27 (lv_at hl 0 rfl) ?_
        refine lv_if_lt (tgt := 65) hx hb dX8_word_29 (by decide) (fun c_3 => ?_) (fun c_3 => ?_)
        · exact absurd c_3 (g18 hlt_k)
        · skip
          refine lv_iload_n hx hb dX8_word_32 rfl (lv_at hl 1 rfl) ?_
          refine lv_iconst (v := 2) hx hb dX8_word_33 (by decide) ?_
          refine lv_imul hx hb dX8_word_34 ?_
          refine lv_aload_n hx hb dX8_word_35 rfl (lv_at hl 2 rfl) ?_
          refine va_get (D := G.1) (ci := 10) (v := .ref bb) (C := RX8) (T := TX8) (N := 19) hx hb hts in_X8 hown hK hP 0 rfl rfl 0 (by decide) (hts _ k_fl_X8_9) (fun _ h9 => h9) rfl dX8_word_36 ?_
          refine lv_iload_n hx hb dX8_word_39 rfl (lv_at hl 3 rfl) ?_
          refine gAald (r := r0) hx hb hK hP 1 3 rfl rfl rfl hz (by (try rw [vp_in_iff]); omega) dX8_word_40 ?_
          refine lv_bipush (v := 20) hx hb dX8_word_41 (by decide) ?_
          refine lv_iload_n hx hb dX8_word_43 rfl (lv_at hl 4 rfl) ?_
          refine lv_imul hx hb dX8_word_44 ?_
          refine lv_iload hx hb dX8_word_45 (lv_at hl 0 rfl) ?_
          refine lv_iadd hx hb dX8_word_47 ?_
          refine va_zald hx hb hK hP 2 1 rfl rfl (by have z0 : (20 : Int32).toInt = 20 := (by decide); (try have z2 := gI_mul (x := 20) (y := p1) (by (try rw [z0]); (try rw [z1]); omega) (by (try rw [z0]); (try rw [z1]); omega)); (try rw [z0, z1] at z2); (try rw [z0] at z2); (try rw [z1] at z2); have z3 : (18 : Int32).toInt = 18 := (by decide); have z4 := nI_toInt (n := k) (by omega); (try have z5 := gI_sub (x := 18) (y := (nI k)) (by omega) (by omega)); (try have z6 := gI_add (x := (20 * p1)) (y := (18 - (nI k))) (by omega) (by omega)); (try rw [vp_in_iff]); omega) dX8_word_48 ?_
          refine lv_if_eq (tgt := 56) hx hb dX8_word_49 (by decide) (fun c_4 => ?_) (fun c_4 => ?_)
          · skip
            refine lv_iconst (v := 0) hx hb dX8_word_56 (by decide) ?_
            refine lv_iadd hx hb dX8_word_57 ?_
            refine lv_istore_n (lv' := [(3, .int (((it_X8_word_27 b p1 k) * 2) + 0)), (4, .int (18 - (nI k))), (0, .ref m0), (1, .int p0), (2, .int p1)]) hx hb dX8_word_58 rfl hl (by decide) rfl (fun ls hl => ?_)
            refine lv_iinc (v := (18 - (nI (k + 1)))) (lv' := [(4, .int (18 - (nI (k + 1)))), (3, .int (((it_X8_word_27 b p1 k) * 2) + 0)), (0, .ref m0), (1, .int p0), (2, .int p1)]) hx hb dX8_word_59 hl (k := 1) rfl (g18s k) (by decide) rfl (fun ls hl => ?_)
            refine lv_goto (tgt := 27) hx hb dX8_word_62 (by decide) ?_
            have ek : (it_X8_word_27 b p1 (k + 1)) = (((it_X8_word_27 b p1 k) * 2) + 0) := (if_pos c_4)
            exact ih (k + 1) (by omega) _ _ hP hD hS ls (lv_sub hl [0, 1, 2, 3, 4] (by rw [ek]; rfl))
          · skip
            refine lv_iconst (v := 1) hx hb dX8_word_52 (by decide) ?_
            refine lv_goto (tgt := 57) hx hb dX8_word_53 (by decide) ?_
            refine lv_iadd hx hb dX8_word_57 ?_
            refine lv_istore_n (lv' := [(3, .int (((it_X8_word_27 b p1 k) * 2) + 1)), (4, .int (18 - (nI k))), (0, .ref m0), (1, .int p0), (2, .int p1)]) hx hb dX8_word_58 rfl hl (by decide) rfl (fun ls hl => ?_)
            refine lv_iinc (v := (18 - (nI (k + 1)))) (lv' := [(4, .int (18 - (nI (k + 1)))), (3, .int (((it_X8_word_27 b p1 k) * 2) + 1)), (0, .ref m0), (1, .int p0), (2, .int p1)]) hx hb dX8_word_59 hl (k := 1) rfl (g18s k) (by decide) rfl (fun ls hl => ?_)
            refine lv_goto (tgt := 27) hx hb dX8_word_62 (by decide) ?_
            have ek : (it_X8_word_27 b p1 (k + 1)) = (((it_X8_word_27 b p1 k) * 2) + 1) := (if_neg c_4)
            exact ih (k + 1) (by omega) _ _ hP hD hS ls (lv_sub hl [0, 1, 2, 3, 4] (by rw [ek]; rfl))
    exact loop_27 19 0 (by omega) _ _ hP hD hS ls (lv_sub hl [0, 1, 2, 3, 4] rfl)
  · skip
    refine lv_iconst (v := (-1)) hx hb dX8_word_17 (by decide) ?_
    refine lv_goto (tgt := 22) hx hb dX8_word_18 (by decide) ?_
    refine lv_istore_n (lv' := [(3, .int (-1)), (0, .ref m0), (1, .int p0), (2, .int p1)]) hx hb dX8_word_22 rfl hl (by decide) rfl (fun ls hl => ?_)
    refine lv_bipush (v := 18) hx hb dX8_word_23 (by decide) ?_
    refine lv_istore (lv' := [(4, .int 18), (3, .int (-1)), (0, .ref m0), (1, .int p0), (2, .int p1)]) hx hb dX8_word_25 hl (by decide) rfl (fun ls hl => ?_)
    have loop_27 : ∀ (fu k : Nat), k + fu = 19 → ∀ (H : Heap) (locs : List Loc), va_P G.1 vwCl [(m0, .inr (10, [.ref bb, .ref wm, .ref sl, .ref cq, .ref ii, .ref oo, .int Mtm, .int Mac, .int Mtk, .int Mcy, .int Msta, .int Mdn, .int Mwt, .int Mdr, .int Mov, .int Mpi, .int Mfx, .int Mip, .int Mio])), (bb, .inl (G.2.1.2.2.2.1, 8, .inr (.inr (.inr (.inr fz))))), (r0, .inl (G.2.1.2.1, 640, .inl b))] H → va_D A [(m0, .inr (10, [.ref bb, .ref wm, .ref sl, .ref cq, .ref ii, .ref oo, .int Mtm, .int Mac, .int Mtk, .int Mcy, .int Msta, .int Mdn, .int Mwt, .int Mdr, .int Mov, .int Mpi, .int Mfx, .int Mip, .int Mio])), (bb, .inl (G.2.1.2.2.2.1, 8, .inr (.inr (.inr (.inr fz))))), (r0, .inl (G.2.1.2.1, 640, .inl b))] → va_S A s.heap H locs → ∀ ls : Array Slot, lv_has ls 5 [(4, .int (18 - (nI k))), (3, .int (it_X8_word_27_e1 b p1 k)), (0, .ref m0), (1, .int p0), (2, .int p1)] → W p l e { frames := 0, cells := 0, slots := 0, locals := 0 } s m args below meth c H locs 0 0 (MQ below (gQ G (some (.int (f_X8_word b p1))) [(m0, .inr (10, [.ref bb, .ref wm, .ref sl, .ref cq, .ref ii, .ref oo, .int Mtm, .int Mac, .int Mtk, .int Mcy, .int Msta, .int Mdn, .int Mwt, .int Mdr, .int Mov, .int Mpi, .int Mfx, .int Mip, .int Mio])), (bb, .inl (G.2.1.2.2.2.1, 8, .inr (.inr (.inr (.inr fz))))), (r0, .inl (G.2.1.2.1, 640, .inl b))] A) args s 0 0 A) (F0 m 27 ls []) := by
      intro fu
      induction fu with
      | zero =>
        intro k hk H locs hP hD hS ls hl
        have ek : 19 = k := by omega
        subst ek
        replace hP : va_P G.1 vwCl [(m0, .inr (10, [.ref bb, .ref wm, .ref sl, .ref cq, .ref ii, .ref oo, .int Mtm, .int Mac, .int Mtk, .int Mcy, .int Msta, .int Mdn, .int Mwt, .int Mdr, .int Mov, .int Mpi, .int Mfx, .int Mip, .int Mio])), (bb, .inl (G.2.1.2.2.2.1, 8, .inr (.inr (.inr (.inr fz))))), (r0, .inl (G.2.1.2.1, 640, .inl b))] H := hP
        replace hD : va_D A [(m0, .inr (10, [.ref bb, .ref wm, .ref sl, .ref cq, .ref ii, .ref oo, .int Mtm, .int Mac, .int Mtk, .int Mcy, .int Msta, .int Mdn, .int Mwt, .int Mdr, .int Mov, .int Mpi, .int Mfx, .int Mip, .int Mio])), (bb, .inl (G.2.1.2.2.2.1, 8, .inr (.inr (.inr (.inr fz))))), (r0, .inl (G.2.1.2.1, 640, .inl b))] := hD
        replace hl : lv_has ls 5 [(4, .int (18 - (nI 19))), (3, .int (it_X8_word_27_e1 b p1 19)), (0, .ref m0), (1, .int p0), (2, .int p1)] := hl
        refine lv_iload hx hb dX8_word_27 (lv_at hl 0 rfl) ?_
        refine lv_if_lt (tgt := 65) hx hb dX8_word_29 (by decide) (fun c_5 => ?_) (fun c_5 => ?_)
        · skip
          refine lv_iload_n hx hb dX8_word_65 rfl (lv_at hl 1 rfl) ?_
          have ef : (f_X8_word b p1) = (it_X8_word_27_e1 b p1 19) := (if_neg c_1)
          exact gRetI F hr hlocks hK hP hD hS (by rw [ef]) rfl (Nat.le_of_ble_eq_true rfl) (Nat.le_of_ble_eq_true rfl) dX8_word_66
        · exact absurd (by decide : (18 : Int32) - nI 19 < 0) c_5
      | succ fu ih =>
        intro k hk H locs hP hD hS ls hl
        have hlt_k : k < 19 := by omega
        refine lv_iload hx hb dX8_word_27 (lv_at hl 0 rfl) ?_
        refine lv_if_lt (tgt := 65) hx hb dX8_word_29 (by decide) (fun c_6 => ?_) (fun c_6 => ?_)
        · exact absurd c_6 (g18 hlt_k)
        · skip
          refine lv_iload_n hx hb dX8_word_32 rfl (lv_at hl 1 rfl) ?_
          refine lv_iconst (v := 2) hx hb dX8_word_33 (by decide) ?_
          refine lv_imul hx hb dX8_word_34 ?_
          refine lv_aload_n hx hb dX8_word_35 rfl (lv_at hl 2 rfl) ?_
          refine va_get (D := G.1) (ci := 10) (v := .ref bb) (C := RX8) (T := TX8) (N := 19) hx hb hts in_X8 hown hK hP 0 rfl rfl 0 (by decide) (hts _ k_fl_X8_9) (fun _ h9 => h9) rfl dX8_word_36 ?_
          refine lv_iload_n hx hb dX8_word_39 rfl (lv_at hl 3 rfl) ?_
          refine gAald (r := r0) hx hb hK hP 1 3 rfl rfl rfl hz (by (try rw [vp_in_iff]); omega) dX8_word_40 ?_
          refine lv_bipush (v := 20) hx hb dX8_word_41 (by decide) ?_
          refine lv_iload_n hx hb dX8_word_43 rfl (lv_at hl 4 rfl) ?_
          refine lv_imul hx hb dX8_word_44 ?_
          refine lv_iload hx hb dX8_word_45 (lv_at hl 0 rfl) ?_
          refine lv_iadd hx hb dX8_word_47 ?_
          refine va_zald hx hb hK hP 2 1 rfl rfl (by have z0 : (20 : Int32).toInt = 20 := (by decide); (try have z2 := gI_mul (x := 20) (y := p1) (by (try rw [z0]); (try rw [z1]); omega) (by (try rw [z0]); (try rw [z1]); omega)); (try rw [z0, z1] at z2); (try rw [z0] at z2); (try rw [z1] at z2); have z3 : (18 : Int32).toInt = 18 := (by decide); have z4 := nI_toInt (n := k) (by omega); (try have z5 := gI_sub (x := 18) (y := (nI k)) (by omega) (by omega)); (try have z6 := gI_add (x := (20 * p1)) (y := (18 - (nI k))) (by omega) (by omega)); (try rw [vp_in_iff]); omega) dX8_word_48 ?_
          refine lv_if_eq (tgt := 56) hx hb dX8_word_49 (by decide) (fun c_7 => ?_) (fun c_7 => ?_)
          · skip
            refine lv_iconst (v := 0) hx hb dX8_word_56 (by decide) ?_
            refine lv_iadd hx hb dX8_word_57 ?_
            refine lv_istore_n (lv' := [(3, .int (((it_X8_word_27_e1 b p1 k) * 2) + 0)), (4, .int (18 - (nI k))), (0, .ref m0), (1, .int p0), (2, .int p1)]) hx hb dX8_word_58 rfl hl (by decide) rfl (fun ls hl => ?_)
            refine lv_iinc (v := (18 - (nI (k + 1)))) (lv' := [(4, .int (18 - (nI (k + 1)))), (3, .int (((it_X8_word_27_e1 b p1 k) * 2) + 0)), (0, .ref m0), (1, .int p0), (2, .int p1)]) hx hb dX8_word_59 hl (k := 1) rfl (g18s k) (by decide) rfl (fun ls hl => ?_)
            refine lv_goto (tgt := 27) hx hb dX8_word_62 (by decide) ?_
            have ek : (it_X8_word_27_e1 b p1 (k + 1)) = (((it_X8_word_27_e1 b p1 k) * 2) + 0) := (if_pos c_7)
            exact ih (k + 1) (by omega) _ _ hP hD hS ls (lv_sub hl [0, 1, 2, 3, 4] (by rw [ek]; rfl))
          · skip
            refine lv_iconst (v := 1) hx hb dX8_word_52 (by decide) ?_
            refine lv_goto (tgt := 57) hx hb dX8_word_53 (by decide) ?_
            refine lv_iadd hx hb dX8_word_57 ?_
            refine lv_istore_n (lv' := [(3, .int (((it_X8_word_27_e1 b p1 k) * 2) + 1)), (4, .int (18 - (nI k))), (0, .ref m0), (1, .int p0), (2, .int p1)]) hx hb dX8_word_58 rfl hl (by decide) rfl (fun ls hl => ?_)
            refine lv_iinc (v := (18 - (nI (k + 1)))) (lv' := [(4, .int (18 - (nI (k + 1)))), (3, .int (((it_X8_word_27_e1 b p1 k) * 2) + 1)), (0, .ref m0), (1, .int p0), (2, .int p1)]) hx hb dX8_word_59 hl (k := 1) rfl (g18s k) (by decide) rfl (fun ls hl => ?_)
            refine lv_goto (tgt := 27) hx hb dX8_word_62 (by decide) ?_
            have ek : (it_X8_word_27_e1 b p1 (k + 1)) = (((it_X8_word_27_e1 b p1 k) * 2) + 1) := (if_neg c_7)
            exact ih (k + 1) (by omega) _ _ hP hD hS ls (lv_sub hl [0, 1, 2, 3, 4] (by rw [ek]; rfl))
    exact loop_27 19 0 (by omega) _ _ hP hD hS ls (lv_sub hl [0, 1, 2, 3, 4] rfl)
theorem okV_X8_word : gOkV yX8_word cX8_word 5 (some .int) 2 := ⟨⟨k_im_X8_word, k_se_X8_word, k_in_X8, k_cd_X8_word⟩, by decide, by decide, by decide +kernel⟩
def st_X8_set_3 (p1 : Int32) (p2 : Int32) (k : Nat) (v0_ : Nat → Int32) : (Nat → Int32) :=
  if (((p2 >>> ((nI k) &&& 31)) : Int32) &&& 1) = 1 then
    (upd v0_ (Int32.toNatClampNeg ((20 * p1) + (nI k))) (vp_nar .boolean 1))
  else
    (upd v0_ (Int32.toNatClampNeg ((20 * p1) + (nI k))) (vp_nar .boolean 0))
def it_X8_set_3 (b : Nat → Int32) (p1 : Int32) (p2 : Int32) : Nat → (Nat → Int32)
  | 0 => b
  | i + 1 => st_X8_set_3 p1 p2 i (it_X8_set_3 b p1 p2 i)
def f_X8_set (b : Nat → Int32) (p1 : Int32) (p2 : Int32) : (Nat → Int32) :=
  (it_X8_set_3 b p1 p2 20)
set_option maxRecDepth 100000 in
set_option maxHeartbeats 4000000 in
theorem c_X8_set (l : Launch) (G : gG) (m0 : Nat) (bb : Nat) (wm : Nat) (sl : Nat) (cq : Nat) (ii : Nat) (oo : Nat) (Mtm : Int32) (Mac : Int32) (Mtk : Int32) (Mcy : Int32) (Msta : Int32) (Mdn : Int32) (Mwt : Int32) (Mdr : Int32) (Mov : Int32) (Mpi : Int32) (Mfx : Int32) (Mip : Int32) (Mio : Int32) (r0 : Nat) (fz : Nat → Option Nat) (b : Nat → Int32) (p0 : Int32) (p1 : Int32) (p2 : Int32) (hz : fz (Int32.toNatClampNeg p0) = some r0) (hk0 : 0 ≤ p0.toInt ∧ p0.toInt < 8) (hk1 : 0 ≤ p1.toInt ∧ p1.toInt < 32) : gM l G yX8_set cX8_set 5 none { frames := 0, cells := 0, slots := 0, locals := 0 } [.ref m0, .int p0, .int p1, .int p2] [(m0, .inr (10, [.ref bb, .ref wm, .ref sl, .ref cq, .ref ii, .ref oo, .int Mtm, .int Mac, .int Mtk, .int Mcy, .int Msta, .int Mdn, .int Mwt, .int Mdr, .int Mov, .int Mpi, .int Mfx, .int Mip, .int Mio])), (bb, .inl (G.2.1.2.2.2.1, 8, .inr (.inr (.inr (.inr fz))))), (r0, .inl (G.2.1.2.1, 640, .inl b))] none [(m0, .inr (10, [.ref bb, .ref wm, .ref sl, .ref cq, .ref ii, .ref oo, .int Mtm, .int Mac, .int Mtk, .int Mcy, .int Msta, .int Mdn, .int Mwt, .int Mdr, .int Mov, .int Mpi, .int Mfx, .int Mip, .int Mio])), (bb, .inl (G.2.1.2.2.2.1, 8, .inr (.inr (.inr (.inr fz))))), (r0, .inl (G.2.1.2.1, 640, .inl (f_X8_set b p1 p2)))] 0 0 := by
  refine gBegin (by decide +kernel) (Nat.le_of_ble_eq_true rfl) (fun p e s m args below meth c A F hr hlocks hname hN hK hP hD hA hS ls hl => ?_)
  obtain ⟨hx, hb, hml, hown, hts⟩ := id F
  replace hP : va_P G.1 vwCl [(m0, .inr (10, [.ref bb, .ref wm, .ref sl, .ref cq, .ref ii, .ref oo, .int Mtm, .int Mac, .int Mtk, .int Mcy, .int Msta, .int Mdn, .int Mwt, .int Mdr, .int Mov, .int Mpi, .int Mfx, .int Mip, .int Mio])), (bb, .inl (G.2.1.2.2.2.1, 8, .inr (.inr (.inr (.inr fz))))), (r0, .inl (G.2.1.2.1, 640, .inl b))] s.heap := hP
  replace hl : lv_has ls 5 [(0, .ref m0), (1, .int p0), (2, .int p1), (3, .int p2)] := hl
  refine lv_iconst (v := 0) hx hb dX8_set_0 (by decide) ?_
  refine lv_istore (lv' := [(4, .int 0), (0, .ref m0), (1, .int p0), (2, .int p1), (3, .int p2)]) hx hb dX8_set_1 hl (by decide) rfl (fun ls hl => ?_)
  have loop_3 : ∀ (fu k : Nat), k + fu = 20 → ∀ (H : Heap) (locs : List Loc), va_P G.1 vwCl [(m0, .inr (10, [.ref bb, .ref wm, .ref sl, .ref cq, .ref ii, .ref oo, .int Mtm, .int Mac, .int Mtk, .int Mcy, .int Msta, .int Mdn, .int Mwt, .int Mdr, .int Mov, .int Mpi, .int Mfx, .int Mip, .int Mio])), (bb, .inl (G.2.1.2.2.2.1, 8, .inr (.inr (.inr (.inr fz))))), (r0, .inl (G.2.1.2.1, 640, .inl (it_X8_set_3 b p1 p2 k)))] H → va_D A [(m0, .inr (10, [.ref bb, .ref wm, .ref sl, .ref cq, .ref ii, .ref oo, .int Mtm, .int Mac, .int Mtk, .int Mcy, .int Msta, .int Mdn, .int Mwt, .int Mdr, .int Mov, .int Mpi, .int Mfx, .int Mip, .int Mio])), (bb, .inl (G.2.1.2.2.2.1, 8, .inr (.inr (.inr (.inr fz))))), (r0, .inl (G.2.1.2.1, 640, .inl (it_X8_set_3 b p1 p2 k)))] → va_S A s.heap H locs → ∀ ls : Array Slot, lv_has ls 5 [(4, .int (nI k)), (0, .ref m0), (1, .int p0), (2, .int p1), (3, .int p2)] → W p l e { frames := 0, cells := 0, slots := 0, locals := 0 } s m args below meth c H locs 0 0 (MQ below (gQ G none [(m0, .inr (10, [.ref bb, .ref wm, .ref sl, .ref cq, .ref ii, .ref oo, .int Mtm, .int Mac, .int Mtk, .int Mcy, .int Msta, .int Mdn, .int Mwt, .int Mdr, .int Mov, .int Mpi, .int Mfx, .int Mip, .int Mio])), (bb, .inl (G.2.1.2.2.2.1, 8, .inr (.inr (.inr (.inr fz))))), (r0, .inl (G.2.1.2.1, 640, .inl (f_X8_set b p1 p2)))] A) args s 0 0 A) (F0 m 3 ls []) := by
    intro fu
    induction fu with
    | zero =>
      intro k hk H locs hP hD hS ls hl
      have ek : 20 = k := by omega
      subst ek
      replace hP : va_P G.1 vwCl [(m0, .inr (10, [.ref bb, .ref wm, .ref sl, .ref cq, .ref ii, .ref oo, .int Mtm, .int Mac, .int Mtk, .int Mcy, .int Msta, .int Mdn, .int Mwt, .int Mdr, .int Mov, .int Mpi, .int Mfx, .int Mip, .int Mio])), (bb, .inl (G.2.1.2.2.2.1, 8, .inr (.inr (.inr (.inr fz))))), (r0, .inl (G.2.1.2.1, 640, .inl (it_X8_set_3 b p1 p2 20)))] H := hP
      replace hD : va_D A [(m0, .inr (10, [.ref bb, .ref wm, .ref sl, .ref cq, .ref ii, .ref oo, .int Mtm, .int Mac, .int Mtk, .int Mcy, .int Msta, .int Mdn, .int Mwt, .int Mdr, .int Mov, .int Mpi, .int Mfx, .int Mip, .int Mio])), (bb, .inl (G.2.1.2.2.2.1, 8, .inr (.inr (.inr (.inr fz))))), (r0, .inl (G.2.1.2.1, 640, .inl (it_X8_set_3 b p1 p2 20)))] := hD
      replace hl : lv_has ls 5 [(4, .int (nI 20)), (0, .ref m0), (1, .int p0), (2, .int p1), (3, .int p2)] := hl
      refine lv_iload hx hb dX8_set_3 (lv_at hl 0 rfl) ?_
      refine lv_bipush (v := 20) hx hb dX8_set_5 (by decide) ?_
      refine lv_icmp_ge (tgt := 45) hx hb dX8_set_7 (by decide) (fun c_1 => ?_) (fun c_1 => ?_)
      · skip
        exact gRetV F hr hlocks hK hP hD hS rfl rfl (Nat.le_of_ble_eq_true rfl) (Nat.le_of_ble_eq_true rfl) dX8_set_45
      · exact absurd (Int32.le_refl _) c_1
    | succ fu ih =>
      intro k hk H locs hP hD hS ls hl
      have hlt_k : k < 20 := by omega
      refine lv_iload hx hb dX8_set_3 (lv_at hl 0 rfl) ?_
      refine lv_bipush (v := 20) hx hb dX8_set_5 (by decide) ?_
      refine lv_icmp_ge (tgt := 45) hx hb dX8_set_7 (by decide) (fun c_2 => ?_) (fun c_2 => ?_)
      · exact absurd c_2 (nI_ge hlt_k (by decide))
      · skip
        refine lv_aload_n hx hb dX8_set_10 rfl (lv_at hl 1 rfl) ?_
        refine va_get (D := G.1) (ci := 10) (v := .ref bb) (C := RX8) (T := TX8) (N := 19) hx hb hts in_X8 hown hK hP 0 rfl rfl 0 (by decide) (hts _ k_fl_X8_9) (fun _ h9 => h9) rfl dX8_set_11 ?_
        refine lv_iload_n hx hb dX8_set_14 rfl (lv_at hl 2 rfl) ?_
        refine gAald (r := r0) hx hb hK hP 1 3 rfl rfl rfl hz (by (try rw [vp_in_iff]); omega) dX8_set_15 ?_
        refine lv_bipush (v := 20) hx hb dX8_set_16 (by decide) ?_
        refine lv_iload_n hx hb dX8_set_18 rfl (lv_at hl 3 rfl) ?_
        refine lv_imul hx hb dX8_set_19 ?_
        refine lv_iload hx hb dX8_set_20 (lv_at hl 0 rfl) ?_
        refine lv_iadd hx hb dX8_set_22 ?_
        refine lv_iload_n hx hb dX8_set_23 rfl (lv_at hl 4 rfl) ?_
        refine lv_iload hx hb dX8_set_24 (lv_at hl 0 rfl) ?_
        refine lv_ishr hx hb dX8_set_26 ?_
        refine lv_iconst (v := 1) hx hb dX8_set_27 (by decide) ?_
        refine lv_iand hx hb dX8_set_28 ?_
        refine lv_iconst (v := 1) hx hb dX8_set_29 (by decide) ?_
        refine lv_icmp_ne (tgt := 37) hx hb dX8_set_30 (by decide) (fun c_3 => ?_) (fun c_3 => ?_)
        · skip
          refine lv_iconst (v := 0) hx hb dX8_set_37 (by decide) ?_
          refine va_zast hx hb hK hP hD hS 2 1 rfl rfl (by have z0 : (20 : Int32).toInt = 20 := (by decide); (try have z2 := gI_mul (x := 20) (y := p1) (by (try rw [z0]); (try rw [z1]); omega) (by (try rw [z0]); (try rw [z1]); omega)); (try rw [z0, z1] at z2); (try rw [z0] at z2); (try rw [z1] at z2); have z3 := nI_toInt (n := k) (by omega); (try have z4 := gI_add (x := (20 * p1)) (y := (nI k)) (by omega) (by omega)); (try rw [vp_in_iff]); omega) dX8_set_38 (fun H locs hP hD hS => ?_)
          replace hP : va_P G.1 vwCl [(m0, .inr (10, [.ref bb, .ref wm, .ref sl, .ref cq, .ref ii, .ref oo, .int Mtm, .int Mac, .int Mtk, .int Mcy, .int Msta, .int Mdn, .int Mwt, .int Mdr, .int Mov, .int Mpi, .int Mfx, .int Mip, .int Mio])), (bb, .inl (G.2.1.2.2.2.1, 8, .inr (.inr (.inr (.inr fz))))), (r0, .inl (G.2.1.2.1, 640, .inl (upd (it_X8_set_3 b p1 p2 k) (Int32.toNatClampNeg ((20 * p1) + (nI k))) (vp_nar .boolean 0))))] H := hP
          replace hD : va_D A [(m0, .inr (10, [.ref bb, .ref wm, .ref sl, .ref cq, .ref ii, .ref oo, .int Mtm, .int Mac, .int Mtk, .int Mcy, .int Msta, .int Mdn, .int Mwt, .int Mdr, .int Mov, .int Mpi, .int Mfx, .int Mip, .int Mio])), (bb, .inl (G.2.1.2.2.2.1, 8, .inr (.inr (.inr (.inr fz))))), (r0, .inl (G.2.1.2.1, 640, .inl (upd (it_X8_set_3 b p1 p2 k) (Int32.toNatClampNeg ((20 * p1) + (nI k))) (vp_nar .boolean 0))))] := hD
          refine lv_iinc (v := (nI (k + 1))) (lv' := [(4, .int (nI (k + 1))), (0, .ref m0), (1, .int p0), (2, .int p1), (3, .int p2)]) hx hb dX8_set_39 hl (k := 0) rfl (nI_1 k) (by decide) rfl (fun ls hl => ?_)
          refine lv_goto (tgt := 3) hx hb dX8_set_42 (by decide) ?_
          have ek : (it_X8_set_3 b p1 p2 (k + 1)) = (upd (it_X8_set_3 b p1 p2 k) (Int32.toNatClampNeg ((20 * p1) + (nI k))) (vp_nar .boolean 0)) := (if_neg c_3)
          exact ih (k + 1) (by omega) _ _ (by rw [ek]; exact hP) (by rw [ek]; exact hD) hS ls (lv_sub hl [0, 1, 2, 3, 4] rfl)
        · skip
          refine lv_iconst (v := 1) hx hb dX8_set_33 (by decide) ?_
          refine lv_goto (tgt := 38) hx hb dX8_set_34 (by decide) ?_
          refine va_zast hx hb hK hP hD hS 2 1 rfl rfl (by have z0 : (20 : Int32).toInt = 20 := (by decide); (try have z2 := gI_mul (x := 20) (y := p1) (by (try rw [z0]); (try rw [z1]); omega) (by (try rw [z0]); (try rw [z1]); omega)); (try rw [z0, z1] at z2); (try rw [z0] at z2); (try rw [z1] at z2); have z3 := nI_toInt (n := k) (by omega); (try have z4 := gI_add (x := (20 * p1)) (y := (nI k)) (by omega) (by omega)); (try rw [vp_in_iff]); omega) dX8_set_38 (fun H locs hP hD hS => ?_)
          replace hP : va_P G.1 vwCl [(m0, .inr (10, [.ref bb, .ref wm, .ref sl, .ref cq, .ref ii, .ref oo, .int Mtm, .int Mac, .int Mtk, .int Mcy, .int Msta, .int Mdn, .int Mwt, .int Mdr, .int Mov, .int Mpi, .int Mfx, .int Mip, .int Mio])), (bb, .inl (G.2.1.2.2.2.1, 8, .inr (.inr (.inr (.inr fz))))), (r0, .inl (G.2.1.2.1, 640, .inl (upd (it_X8_set_3 b p1 p2 k) (Int32.toNatClampNeg ((20 * p1) + (nI k))) (vp_nar .boolean 1))))] H := hP
          replace hD : va_D A [(m0, .inr (10, [.ref bb, .ref wm, .ref sl, .ref cq, .ref ii, .ref oo, .int Mtm, .int Mac, .int Mtk, .int Mcy, .int Msta, .int Mdn, .int Mwt, .int Mdr, .int Mov, .int Mpi, .int Mfx, .int Mip, .int Mio])), (bb, .inl (G.2.1.2.2.2.1, 8, .inr (.inr (.inr (.inr fz))))), (r0, .inl (G.2.1.2.1, 640, .inl (upd (it_X8_set_3 b p1 p2 k) (Int32.toNatClampNeg ((20 * p1) + (nI k))) (vp_nar .boolean 1))))] := hD
          refine lv_iinc (v := (nI (k + 1))) (lv' := [(4, .int (nI (k + 1))), (0, .ref m0), (1, .int p0), (2, .int p1), (3, .int p2)]) hx hb dX8_set_39 hl (k := 0) rfl (nI_1 k) (by decide) rfl (fun ls hl => ?_)
          refine lv_goto (tgt := 3) hx hb dX8_set_42 (by decide) ?_
          have ek : (it_X8_set_3 b p1 p2 (k + 1)) = (upd (it_X8_set_3 b p1 p2 k) (Int32.toNatClampNeg ((20 * p1) + (nI k))) (vp_nar .boolean 1)) := (if_pos c_3)
          exact ih (k + 1) (by omega) _ _ (by rw [ek]; exact hP) (by rw [ek]; exact hD) hS ls (lv_sub hl [0, 1, 2, 3, 4] rfl)
  exact loop_3 20 0 (by omega) _ _ hP hD hS ls (lv_sub hl [0, 1, 2, 3, 4] rfl)
theorem okV_X8_set : gOkV yX8_set cX8_set 5 none 3 := ⟨⟨k_im_X8_set, k_se_X8_set, k_in_X8, k_cd_X8_set⟩, by decide, by decide, by decide +kernel⟩
def st_X8_ones_16 (b : Nat → Int32) (k : Nat) (v0_ : Int32) : Int32 :=
  if (b (Int32.toNatClampNeg (nI k))) = 0 then
    (v0_ + 0)
  else
    (v0_ + 1)
def it_X8_ones_16 (b : Nat → Int32) : Nat → Int32
  | 0 => 0
  | i + 1 => st_X8_ones_16 b i (it_X8_ones_16 b i)
def f_X8_ones (b : Nat → Int32) : Int32 :=
  (it_X8_ones_16 b 640)
set_option maxRecDepth 100000 in
set_option maxHeartbeats 4000000 in
theorem c_X8_ones (l : Launch) (G : gG) (m0 : Nat) (bb : Nat) (wm : Nat) (sl : Nat) (cq : Nat) (ii : Nat) (oo : Nat) (Mtm : Int32) (Mac : Int32) (Mtk : Int32) (Mcy : Int32) (Msta : Int32) (Mdn : Int32) (Mwt : Int32) (Mdr : Int32) (Mov : Int32) (Mpi : Int32) (Mfx : Int32) (Mip : Int32) (Mio : Int32) (r0 : Nat) (fz : Nat → Option Nat) (b : Nat → Int32) (p0 : Int32) (hz : fz (Int32.toNatClampNeg p0) = some r0) (hk0 : 0 ≤ p0.toInt ∧ p0.toInt < 8) : gM l G yX8_ones cX8_ones 7 (some .int) { frames := 0, cells := 0, slots := 0, locals := 0 } [.ref m0, .int p0] [(m0, .inr (10, [.ref bb, .ref wm, .ref sl, .ref cq, .ref ii, .ref oo, .int Mtm, .int Mac, .int Mtk, .int Mcy, .int Msta, .int Mdn, .int Mwt, .int Mdr, .int Mov, .int Mpi, .int Mfx, .int Mip, .int Mio])), (bb, .inl (G.2.1.2.2.2.1, 8, .inr (.inr (.inr (.inr fz))))), (r0, .inl (G.2.1.2.1, 640, .inl b))] (some (.int (f_X8_ones b))) [(m0, .inr (10, [.ref bb, .ref wm, .ref sl, .ref cq, .ref ii, .ref oo, .int Mtm, .int Mac, .int Mtk, .int Mcy, .int Msta, .int Mdn, .int Mwt, .int Mdr, .int Mov, .int Mpi, .int Mfx, .int Mip, .int Mio])), (bb, .inl (G.2.1.2.2.2.1, 8, .inr (.inr (.inr (.inr fz))))), (r0, .inl (G.2.1.2.1, 640, .inl b))] 0 0 := by
  refine gBegin (by decide +kernel) (Nat.le_of_ble_eq_true rfl) (fun p e s m args below meth c A F hr hlocks hname hN hK hP hD hA hS ls hl => ?_)
  obtain ⟨hx, hb, hml, hown, hts⟩ := id F
  replace hP : va_P G.1 vwCl [(m0, .inr (10, [.ref bb, .ref wm, .ref sl, .ref cq, .ref ii, .ref oo, .int Mtm, .int Mac, .int Mtk, .int Mcy, .int Msta, .int Mdn, .int Mwt, .int Mdr, .int Mov, .int Mpi, .int Mfx, .int Mip, .int Mio])), (bb, .inl (G.2.1.2.2.2.1, 8, .inr (.inr (.inr (.inr fz))))), (r0, .inl (G.2.1.2.1, 640, .inl b))] s.heap := hP
  replace hl : lv_has ls 7 [(0, .ref m0), (1, .int p0)] := hl
  refine lv_iconst (v := 0) hx hb dX8_ones_0 (by decide) ?_
  refine lv_istore_n (lv' := [(2, .int 0), (0, .ref m0), (1, .int p0)]) hx hb dX8_ones_1 rfl hl (by decide) rfl (fun ls hl => ?_)
  refine lv_aload_n hx hb dX8_ones_2 rfl (lv_at hl 1 rfl) ?_
  refine va_get (D := G.1) (ci := 10) (v := .ref bb) (C := RX8) (T := TX8) (N := 19) hx hb hts in_X8 hown hK hP 0 rfl rfl 0 (by decide) (hts _ k_fl_X8_9) (fun _ h9 => h9) rfl dX8_ones_3 ?_
  refine lv_iload_n hx hb dX8_ones_6 rfl (lv_at hl 2 rfl) ?_
  refine gAald (r := r0) hx hb hK hP 1 3 rfl rfl rfl hz (by (try rw [vp_in_iff]); omega) dX8_ones_7 ?_
  refine lv_astore_n (lv' := [(3, .ref r0), (2, .int 0), (0, .ref m0), (1, .int p0)]) hx hb dX8_ones_8 rfl hl (by decide) rfl (fun ls hl => ?_)
  refine lv_aload_n hx hb dX8_ones_9 rfl (lv_at hl 0 rfl) ?_
  refine va_alen (v := 640) hx hb hK hP 2 1 rfl rfl rfl dX8_ones_10 ?_
  refine lv_istore (lv' := [(4, .int 640), (3, .ref r0), (2, .int 0), (0, .ref m0), (1, .int p0)]) hx hb dX8_ones_11 hl (by decide) rfl (fun ls hl => ?_)
  refine lv_iconst (v := 0) hx hb dX8_ones_13 (by decide) ?_
  refine lv_istore (lv' := [(5, .int 0), (4, .int 640), (3, .ref r0), (2, .int 0), (0, .ref m0), (1, .int p0)]) hx hb dX8_ones_14 hl (by decide) rfl (fun ls hl => ?_)
  have loop_16 : ∀ (fu k : Nat), k + fu = 640 → ∀ (H : Heap) (locs : List Loc), va_P G.1 vwCl [(m0, .inr (10, [.ref bb, .ref wm, .ref sl, .ref cq, .ref ii, .ref oo, .int Mtm, .int Mac, .int Mtk, .int Mcy, .int Msta, .int Mdn, .int Mwt, .int Mdr, .int Mov, .int Mpi, .int Mfx, .int Mip, .int Mio])), (bb, .inl (G.2.1.2.2.2.1, 8, .inr (.inr (.inr (.inr fz))))), (r0, .inl (G.2.1.2.1, 640, .inl b))] H → va_D A [(m0, .inr (10, [.ref bb, .ref wm, .ref sl, .ref cq, .ref ii, .ref oo, .int Mtm, .int Mac, .int Mtk, .int Mcy, .int Msta, .int Mdn, .int Mwt, .int Mdr, .int Mov, .int Mpi, .int Mfx, .int Mip, .int Mio])), (bb, .inl (G.2.1.2.2.2.1, 8, .inr (.inr (.inr (.inr fz))))), (r0, .inl (G.2.1.2.1, 640, .inl b))] → va_S A s.heap H locs → ∀ ls : Array Slot, lv_has ls 7 [(5, .int (nI k)), (4, .int 640), (3, .ref r0), (2, .int (it_X8_ones_16 b k)), (0, .ref m0), (1, .int p0)] → W p l e { frames := 0, cells := 0, slots := 0, locals := 0 } s m args below meth c H locs 0 0 (MQ below (gQ G (some (.int (f_X8_ones b))) [(m0, .inr (10, [.ref bb, .ref wm, .ref sl, .ref cq, .ref ii, .ref oo, .int Mtm, .int Mac, .int Mtk, .int Mcy, .int Msta, .int Mdn, .int Mwt, .int Mdr, .int Mov, .int Mpi, .int Mfx, .int Mip, .int Mio])), (bb, .inl (G.2.1.2.2.2.1, 8, .inr (.inr (.inr (.inr fz))))), (r0, .inl (G.2.1.2.1, 640, .inl b))] A) args s 0 0 A) (F0 m 16 ls []) := by
    intro fu
    induction fu with
    | zero =>
      intro k hk H locs hP hD hS ls hl
      have ek : 640 = k := by omega
      subst ek
      replace hP : va_P G.1 vwCl [(m0, .inr (10, [.ref bb, .ref wm, .ref sl, .ref cq, .ref ii, .ref oo, .int Mtm, .int Mac, .int Mtk, .int Mcy, .int Msta, .int Mdn, .int Mwt, .int Mdr, .int Mov, .int Mpi, .int Mfx, .int Mip, .int Mio])), (bb, .inl (G.2.1.2.2.2.1, 8, .inr (.inr (.inr (.inr fz))))), (r0, .inl (G.2.1.2.1, 640, .inl b))] H := hP
      replace hD : va_D A [(m0, .inr (10, [.ref bb, .ref wm, .ref sl, .ref cq, .ref ii, .ref oo, .int Mtm, .int Mac, .int Mtk, .int Mcy, .int Msta, .int Mdn, .int Mwt, .int Mdr, .int Mov, .int Mpi, .int Mfx, .int Mip, .int Mio])), (bb, .inl (G.2.1.2.2.2.1, 8, .inr (.inr (.inr (.inr fz))))), (r0, .inl (G.2.1.2.1, 640, .inl b))] := hD
      replace hl : lv_has ls 7 [(5, .int (nI 640)), (4, .int 640), (3, .ref r0), (2, .int (it_X8_ones_16 b 640)), (0, .ref m0), (1, .int p0)] := hl
      refine lv_iload hx hb dX8_ones_16 (lv_at hl 0 rfl) ?_
      refine lv_iload hx hb dX8_ones_18 (lv_at hl 1 rfl) ?_
      refine lv_icmp_ge (tgt := 48) hx hb dX8_ones_20 (by decide) (fun c_1 => ?_) (fun c_1 => ?_)
      · skip
        refine lv_iload_n hx hb dX8_ones_48 rfl (lv_at hl 3 rfl) ?_
        exact gRetI F hr hlocks hK hP hD hS rfl rfl (Nat.le_of_ble_eq_true rfl) (Nat.le_of_ble_eq_true rfl) dX8_ones_49
      · exact absurd (Int32.le_refl _) c_1
    | succ fu ih =>
      intro k hk H locs hP hD hS ls hl
      have hlt_k : k < 640 := by omega
      refine lv_iload hx hb dX8_ones_16 (lv_at hl 0 rfl) ?_
      refine lv_iload hx hb dX8_ones_18 (lv_at hl 1 rfl) ?_
      refine lv_icmp_ge (tgt := 48) hx hb dX8_ones_20 (by decide) (fun c_2 => ?_) (fun c_2 => ?_)
      · exact absurd c_2 (nI_ge hlt_k (by decide))
      · skip
        refine lv_aload_n hx hb dX8_ones_23 rfl (lv_at hl 2 rfl) ?_
        refine lv_iload hx hb dX8_ones_24 (lv_at hl 0 rfl) ?_
        refine va_zald hx hb hK hP 2 1 rfl rfl (vp_in_nI (Nat.lt_of_lt_of_le hlt_k (Nat.le_of_ble_eq_true rfl)) (by decide)) dX8_ones_26 ?_
        refine lv_istore (lv' := [(6, .int (b (Int32.toNatClampNeg (nI k)))), (5, .int (nI k)), (4, .int 640), (3, .ref r0), (2, .int (it_X8_ones_16 b k)), (0, .ref m0), (1, .int p0)]) hx hb dX8_ones_27 hl (by decide) rfl (fun ls hl => ?_)
        refine lv_iload_n hx hb dX8_ones_29 rfl (lv_at hl 4 rfl) ?_
        refine lv_iload hx hb dX8_ones_30 (lv_at hl 0 rfl) ?_
        refine lv_if_eq (tgt := 39) hx hb dX8_ones_32 (by decide) (fun c_3 => ?_) (fun c_3 => ?_)
        · skip
          refine lv_iconst (v := 0) hx hb dX8_ones_39 (by decide) ?_
          refine lv_iadd hx hb dX8_ones_40 ?_
          refine lv_istore_n (lv' := [(2, .int ((it_X8_ones_16 b k) + 0)), (6, .int (b (Int32.toNatClampNeg (nI k)))), (5, .int (nI k)), (4, .int 640), (3, .ref r0), (0, .ref m0), (1, .int p0)]) hx hb dX8_ones_41 rfl hl (by decide) rfl (fun ls hl => ?_)
          refine lv_iinc (v := (nI (k + 1))) (lv' := [(5, .int (nI (k + 1))), (2, .int ((it_X8_ones_16 b k) + 0)), (6, .int (b (Int32.toNatClampNeg (nI k)))), (4, .int 640), (3, .ref r0), (0, .ref m0), (1, .int p0)]) hx hb dX8_ones_42 hl (k := 2) rfl (nI_1 k) (by decide) rfl (fun ls hl => ?_)
          refine lv_goto (tgt := 16) hx hb dX8_ones_45 (by decide) ?_
          have ek : (it_X8_ones_16 b (k + 1)) = ((it_X8_ones_16 b k) + 0) := (if_pos c_3)
          exact ih (k + 1) (by omega) _ _ hP hD hS ls (lv_sub hl [0, 3, 4, 1, 5, 6] (by rw [ek]; rfl))
        · skip
          refine lv_iconst (v := 1) hx hb dX8_ones_35 (by decide) ?_
          refine lv_goto (tgt := 40) hx hb dX8_ones_36 (by decide) ?_
          refine lv_iadd hx hb dX8_ones_40 ?_
          refine lv_istore_n (lv' := [(2, .int ((it_X8_ones_16 b k) + 1)), (6, .int (b (Int32.toNatClampNeg (nI k)))), (5, .int (nI k)), (4, .int 640), (3, .ref r0), (0, .ref m0), (1, .int p0)]) hx hb dX8_ones_41 rfl hl (by decide) rfl (fun ls hl => ?_)
          refine lv_iinc (v := (nI (k + 1))) (lv' := [(5, .int (nI (k + 1))), (2, .int ((it_X8_ones_16 b k) + 1)), (6, .int (b (Int32.toNatClampNeg (nI k)))), (4, .int 640), (3, .ref r0), (0, .ref m0), (1, .int p0)]) hx hb dX8_ones_42 hl (k := 2) rfl (nI_1 k) (by decide) rfl (fun ls hl => ?_)
          refine lv_goto (tgt := 16) hx hb dX8_ones_45 (by decide) ?_
          have ek : (it_X8_ones_16 b (k + 1)) = ((it_X8_ones_16 b k) + 1) := (if_neg c_3)
          exact ih (k + 1) (by omega) _ _ hP hD hS ls (lv_sub hl [0, 3, 4, 1, 5, 6] (by rw [ek]; rfl))
  exact loop_16 640 0 (by omega) _ _ hP hD hS ls (lv_sub hl [0, 1, 2, 3, 4, 5] rfl)
theorem okV_X8_ones : gOkV yX8_ones cX8_ones 7 (some .int) 1 := ⟨⟨k_im_X8_ones, k_se_X8_ones, k_in_X8, k_cd_X8_ones⟩, by decide, by decide, by decide +kernel⟩
def f_Jx4a65c_size_8abf5 (sz : Int32) : Int32 :=
  sz
set_option maxRecDepth 100000 in
set_option maxHeartbeats 4000000 in
theorem c_Jx4a65c_size_8abf5 (l : Launch) (G : gG) (a0 : Nat) (ed : Nat) (mc : Int32) (sz : Int32) : gM l G yJx4a65c_size_8abf5 cJx4a65c_size_8abf5 1 (some .int) { frames := 0, cells := 0, slots := 0, locals := 0 } [.ref a0] [(a0, .inr (2, [.int mc, .ref ed, .int sz]))] (some (.int (f_Jx4a65c_size_8abf5 sz))) [(a0, .inr (2, [.int mc, .ref ed, .int sz]))] 0 0 := by
  refine gBegin (by decide +kernel) (Nat.le_of_ble_eq_true rfl) (fun p e s m args below meth c A F hr hlocks hname hN hK hP hD hA hS ls hl => ?_)
  obtain ⟨hx, hb, hml, hown, hts⟩ := id F
  replace hP : va_P G.1 vwCl [(a0, .inr (2, [.int mc, .ref ed, .int sz]))] s.heap := hP
  replace hl : lv_has ls 1 [(0, .ref a0)] := hl
  refine lv_aload_n hx hb dJx4a65c_size_8abf5_0 rfl (lv_at hl 0 rfl) ?_
  refine va_get (D := G.1) (ci := 2) (v := .int sz) (C := RJx4a65c) (T := TJx4a65c) (N := 3) hx hb hts in_Jx4a65c hown hK hP 0 rfl rfl 2 (by decide) (hts _ k_fl_Jx4a65c_48) (fun _ h9 => h9) rfl dJx4a65c_size_8abf5_1 ?_
  exact gRetI F hr hlocks hK hP hD hS rfl rfl (Nat.le_of_ble_eq_true rfl) (Nat.le_of_ble_eq_true rfl) dJx4a65c_size_8abf5_4
theorem okV_Jx4a65c_size_8abf5 : gOkV yJx4a65c_size_8abf5 cJx4a65c_size_8abf5 1 (some .int) 0 := ⟨⟨k_im_Jx4a65c_size_8abf5, k_se_Jx4a65c_size_8abf5, k_in_Jx4a65c, k_cd_Jx4a65c_size_8abf5⟩, by decide, by decide, by decide +kernel⟩
def f_Jx4a65c_isEmpty_aae02 (sz : Int32) : Int32 :=
  if sz = 0 then
    1
  else
    0
set_option maxRecDepth 100000 in
set_option maxHeartbeats 4000000 in
theorem c_Jx4a65c_isEmpty_aae02 (l : Launch) (G : gG) (a0 : Nat) (ed : Nat) (mc : Int32) (sz : Int32) : gM l G yJx4a65c_isEmpty_aae02 cJx4a65c_isEmpty_aae02 1 (some .boolean) { frames := 0, cells := 0, slots := 0, locals := 0 } [.ref a0] [(a0, .inr (2, [.int mc, .ref ed, .int sz]))] (some (.int (f_Jx4a65c_isEmpty_aae02 sz))) [(a0, .inr (2, [.int mc, .ref ed, .int sz]))] 0 0 := by
  refine gBegin (by decide +kernel) (Nat.le_of_ble_eq_true rfl) (fun p e s m args below meth c A F hr hlocks hname hN hK hP hD hA hS ls hl => ?_)
  obtain ⟨hx, hb, hml, hown, hts⟩ := id F
  replace hP : va_P G.1 vwCl [(a0, .inr (2, [.int mc, .ref ed, .int sz]))] s.heap := hP
  replace hl : lv_has ls 1 [(0, .ref a0)] := hl
  refine lv_aload_n hx hb dJx4a65c_isEmpty_aae02_0 rfl (lv_at hl 0 rfl) ?_
  refine va_get (D := G.1) (ci := 2) (v := .int sz) (C := RJx4a65c) (T := TJx4a65c) (N := 3) hx hb hts in_Jx4a65c hown hK hP 0 rfl rfl 2 (by decide) (hts _ k_fl_Jx4a65c_48) (fun _ h9 => h9) rfl dJx4a65c_isEmpty_aae02_1 ?_
  refine lv_if_ne (tgt := 11) hx hb dJx4a65c_isEmpty_aae02_4 (by decide) (fun c_1 => ?_) (fun c_1 => ?_)
  · skip
    refine lv_iconst (v := 0) hx hb dJx4a65c_isEmpty_aae02_11 (by decide) ?_
    have ef : (f_Jx4a65c_isEmpty_aae02 sz) = 0 := (if_neg c_1)
    exact gRetZ F hr hlocks hK hP hD hS rfl (by rw [ef]) rfl (Nat.le_of_ble_eq_true rfl) (Nat.le_of_ble_eq_true rfl) dJx4a65c_isEmpty_aae02_12
  · skip
    refine lv_iconst (v := 1) hx hb dJx4a65c_isEmpty_aae02_7 (by decide) ?_
    refine lv_goto (tgt := 12) hx hb dJx4a65c_isEmpty_aae02_8 (by decide) ?_
    have ef : (f_Jx4a65c_isEmpty_aae02 sz) = 1 := (if_pos c_1)
    exact gRetZ F hr hlocks hK hP hD hS rfl (by rw [ef]) rfl (Nat.le_of_ble_eq_true rfl) (Nat.le_of_ble_eq_true rfl) dJx4a65c_isEmpty_aae02_12
theorem okV_Jx4a65c_isEmpty_aae02 : gOkV yJx4a65c_isEmpty_aae02 cJx4a65c_isEmpty_aae02 1 (some .boolean) 0 := ⟨⟨k_im_Jx4a65c_isEmpty_aae02, k_se_Jx4a65c_isEmpty_aae02, k_in_Jx4a65c, k_cd_Jx4a65c_isEmpty_aae02⟩, by decide, by decide, by decide +kernel⟩
