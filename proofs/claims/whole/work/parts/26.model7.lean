theorem whyNot_0 {w : Nat → Int32} {p : Int32} (c : f_X7_whyNot w p ≤ 0) : 0 ≤ p.toInt ∧ p.toInt ≤ 500 := by
  unfold f_X7_whyNot at c
  by_cases h : f_X7_in (Int32.toInt64 p) 1 500 = 0
  · rw [if_pos h] at c; exact absurd c (by decide)
  · have q := in_ofI (a := 1) (b := 500) h (by decide) (by decide)
    omega
def f_X7_run (w : Nat → Int32) (ring : Nat → Int32) (p0 : Int32) : Int32 × Int32 × (Nat → Int32) × (Nat → Int32) :=
  if (f_X7_whyNot w p0) ≤ 0 then
    ((f_X7_runs w ring p0).1, (f_X7_whyNot w p0), (f_X7_runs w ring p0).2.1, (f_X7_runs w ring p0).2.2)
  else
    (0, (f_X7_whyNot w p0), w, ring)
set_option maxRecDepth 100000 in
set_option maxHeartbeats 4000000 in
theorem c_X7_run (l : Launch) (G : gG) (m0 : Nat) (m1 : Nat) (m2 : Nat) (m3 : Nat) (m6 : Nat) (m13 : Nat) (m14 : Nat) (m17 : Nat) (m18 : Nat) (m19 : Nat) (rz : Int32) (hf : Int32) (hs : Int32) (len : Int32) (ec : Int32) (ep : Int32) (pos : Int32) (bg : Int32) (bad : Int32) (plc : Int32) (sta : Int32) (shm : Int32) (w : Nat → Int32) (ring : Nat → Int32) (p0 : Int32) (hE : EI w 50101) : gM l G yX7_run cX7_run 2 (some .int) { frames := 9, cells := 0, slots := 0, locals := 200 } [.ref m0, .int p0] [(m0, .inr (10, [.int rz, .ref m1, .ref m2, .ref m3, .int hf, .int hs, .ref m6, .int len, .int ec, .int ep, .int pos, .int bg, .int bad, .ref m13, .ref m14, .int plc, .int sta, .ref m17, .ref m18, .ref m19, .int shm])), (m1, .inl (G.2.1.1, 670, .inl w)), (m18, .inl (G.2.1.1, 640, .inl ring))] (some (.int ((f_X7_run w ring p0).1))) [(m0, .inr (10, [.int ((f_X7_run w ring p0).2.1), .ref m1, .ref m2, .ref m3, .int hf, .int hs, .ref m6, .int len, .int ec, .int ep, .int pos, .int bg, .int bad, .ref m13, .ref m14, .int plc, .int sta, .ref m17, .ref m18, .ref m19, .int shm])), (m1, .inl (G.2.1.1, 670, .inl ((f_X7_run w ring p0).2.2.1))), (m18, .inl (G.2.1.1, 640, .inl ((f_X7_run w ring p0).2.2.2)))] 0 0 := by
  refine gBegin (by decide +kernel) (Nat.le_of_ble_eq_true rfl) (fun p e s m args below meth c A F hr hlocks hname hN hK hP hD hA hS ls hl => ?_)
  obtain ⟨hx, hb, hml, hown, hts⟩ := id F
  replace hP : va_P G.1 vwCl [(m0, .inr (10, [.int rz, .ref m1, .ref m2, .ref m3, .int hf, .int hs, .ref m6, .int len, .int ec, .int ep, .int pos, .int bg, .int bad, .ref m13, .ref m14, .int plc, .int sta, .ref m17, .ref m18, .ref m19, .int shm])), (m1, .inl (G.2.1.1, 670, .inl w)), (m18, .inl (G.2.1.1, 640, .inl ring))] s.heap := hP
  replace hl : lv_has ls 2 [(0, .ref m0), (1, .int p0)] := hl
  refine lv_aload_n hx hb dX7_run_0 rfl (lv_at hl 0 rfl) ?_
  refine lv_aload_n hx hb dX7_run_1 rfl (lv_at hl 0 rfl) ?_
  refine lv_iload_n hx hb dX7_run_2 rfl (lv_at hl 1 rfl) ?_
  refine gV (As := [.int p0]) (rest := [.ref m0]) (wr := [(m18, .inl (G.2.1.1, 640, .inl ring))]) (ws' := [(m0, .inr (10, [.int rz, .ref m1, .ref m2, .ref m3, .int hf, .int hs, .ref m6, .int len, .int ec, .int ep, .int pos, .int bg, .int bad, .ref m13, .ref m14, .int plc, .int sta, .ref m17, .ref m18, .ref m19, .int shm])), (m1, .inl (G.2.1.1, 670, .inl w)), (m18, .inl (G.2.1.1, 640, .inl ring))]) F (c_X7_whyNot l G m0 m1 m2 m3 m6 m13 m14 m17 m18 m19 rz hf hs len ec ep pos bg bad plc sta shm w p0) okV_X7_whyNot k_ml_X7_309 rfl rfl ⟨Nat.le_of_ble_eq_true rfl, Nat.le_of_ble_eq_true rfl⟩ hN hK hP hD hS hA [0, 1] [2] [1, 2, 0] (by decide) rfl rfl (by decide) (by decide) (by decide) rfl (q0 := 0) rfl rfl rfl rfl hl.1 (Nat.le_of_ble_eq_true rfl) dX7_run_3 ⟨Nat.le_refl _, Nat.le_refl _⟩ (fun H locs hP hD hS => ?_)
  refine va_put (D := G.1) (ci := 10) (v := .int (f_X7_whyNot w p0)) (ty := .int) (C := RX7) (T := TX7) (N := 21) hx hb hts in_X7 tyX7 tyX7_ok nmX7 hown hK hP hD hS 0 rfl rfl 0 (by decide) (hts _ k_fl_X7_76) (fun _ h9 => h9) rfl (by decide +kernel) rfl rfl (Nat.le_of_ble_eq_true rfl) dX7_run_6 (fun H locs hP hD hS => ?_)
  replace hP : va_P G.1 vwCl [(m0, .inr (10, [.int (f_X7_whyNot w p0), .ref m1, .ref m2, .ref m3, .int hf, .int hs, .ref m6, .int len, .int ec, .int ep, .int pos, .int bg, .int bad, .ref m13, .ref m14, .int plc, .int sta, .ref m17, .ref m18, .ref m19, .int shm])), (m1, .inl (G.2.1.1, 670, .inl w)), (m18, .inl (G.2.1.1, 640, .inl ring))] H := hP
  replace hD : va_D A [(m0, .inr (10, [.int (f_X7_whyNot w p0), .ref m1, .ref m2, .ref m3, .int hf, .int hs, .ref m6, .int len, .int ec, .int ep, .int pos, .int bg, .int bad, .ref m13, .ref m14, .int plc, .int sta, .ref m17, .ref m18, .ref m19, .int shm])), (m1, .inl (G.2.1.1, 670, .inl w)), (m18, .inl (G.2.1.1, 640, .inl ring))] := hD
  refine lv_aload_n hx hb dX7_run_9 rfl (lv_at hl 0 rfl) ?_
  refine va_get (D := G.1) (ci := 10) (v := .int (f_X7_whyNot w p0)) (C := RX7) (T := TX7) (N := 21) hx hb hts in_X7 hown hK hP 0 rfl rfl 0 (by decide) (hts _ k_fl_X7_76) (fun _ h9 => h9) rfl dX7_run_10 ?_
  refine lv_if_le (tgt := 20) hx hb dX7_run_13 (by decide) (fun c_1 => ?_) (fun c_1 => ?_)
  · skip
    refine lv_aload_n hx hb dX7_run_20 rfl (lv_at hl 0 rfl) ?_
    refine lv_iload_n hx hb dX7_run_21 rfl (lv_at hl 1 rfl) ?_
    refine gV (As := [.int p0]) (rest := []) (wr := []) (ws' := [(m0, .inr (10, [.int (f_X7_whyNot w p0), .ref m1, .ref m2, .ref m3, .int hf, .int hs, .ref m6, .int len, .int ec, .int ep, .int pos, .int bg, .int bad, .ref m13, .ref m14, .int plc, .int sta, .ref m17, .ref m18, .ref m19, .int shm])), (m1, .inl (G.2.1.1, 670, .inl ((f_X7_runs w ring p0).2.1))), (m18, .inl (G.2.1.1, 640, .inl ((f_X7_runs w ring p0).2.2)))]) F (c_X7_runs l G m0 m1 m2 m3 m6 m13 m14 m17 m18 m19 (f_X7_whyNot w p0) hf hs len ec ep pos bg bad plc sta shm w ring p0 (whyNot_0 c_1) hE) okV_X7_runs k_ml_X7_312 rfl rfl ⟨Nat.le_of_ble_eq_true rfl, Nat.le_of_ble_eq_true rfl⟩ hN hK hP hD hS hA [0, 1, 2] [] [0, 1, 2] (by decide) rfl rfl (by decide) (by decide) (by decide) rfl (q0 := 0) rfl rfl rfl rfl hl.1 (Nat.le_of_ble_eq_true rfl) dX7_run_22 ⟨Nat.le_refl _, Nat.le_refl _⟩ (fun H locs hP hD hS => ?_)
    have ef : (f_X7_run w ring p0) = ((f_X7_runs w ring p0).1, (f_X7_whyNot w p0), (f_X7_runs w ring p0).2.1, (f_X7_runs w ring p0).2.2) := (if_pos c_1)
    exact gRetI F hr hlocks hK hP hD hS (by rw [ef]) (by rw [ef]) (Nat.le_of_ble_eq_true rfl) (Nat.le_of_ble_eq_true rfl) dX7_run_25
  · skip
    refine lv_iconst (v := 0) hx hb dX7_run_16 (by decide) ?_
    refine lv_goto (tgt := 25) hx hb dX7_run_17 (by decide) ?_
    have ef : (f_X7_run w ring p0) = (0, (f_X7_whyNot w p0), w, ring) := (if_neg c_1)
    exact gRetI F hr hlocks hK hP hD hS (by rw [ef]) (by rw [ef]) (Nat.le_of_ble_eq_true rfl) (Nat.le_of_ble_eq_true rfl) dX7_run_25
theorem okV_X7_run : gOkV yX7_run cX7_run 2 (some .int) 1 := ⟨⟨k_im_X7_run, k_se_X7_run, k_in_X7, k_cd_X7_run⟩, by decide, by decide, by decide +kernel⟩
def f_X7_idle (w : Nat → Int32) (ring : Nat → Int32) (p0 : Int32) : Int32 × Int32 × (Nat → Int32) × (Nat → Int32) :=
  if (f_X7_in (Int32.toInt64 p0) 1 3200) = 0 then
    ((f_X7_fails 1).1, (f_X7_fails 1).2, w, ring)
  else
    ((((f_X7_passes w ring (Int32.toNatClampNeg p0)).1) 0), 0, (f_X7_passes w ring (Int32.toNatClampNeg p0)).1, (f_X7_passes w ring (Int32.toNatClampNeg p0)).2)
set_option maxRecDepth 100000 in
set_option maxHeartbeats 4000000 in
theorem c_X7_idle (l : Launch) (G : gG) (m0 : Nat) (m1 : Nat) (m2 : Nat) (m3 : Nat) (m6 : Nat) (m13 : Nat) (m14 : Nat) (m17 : Nat) (m18 : Nat) (m19 : Nat) (rz : Int32) (hf : Int32) (hs : Int32) (len : Int32) (ec : Int32) (ep : Int32) (pos : Int32) (bg : Int32) (bad : Int32) (plc : Int32) (sta : Int32) (shm : Int32) (w : Nat → Int32) (ring : Nat → Int32) (p0 : Int32) (hT : RT w 3202) : gM l G yX7_idle cX7_idle 2 (some .int) { frames := 5, cells := 0, slots := 0, locals := 107 } [.ref m0, .int p0] [(m0, .inr (10, [.int rz, .ref m1, .ref m2, .ref m3, .int hf, .int hs, .ref m6, .int len, .int ec, .int ep, .int pos, .int bg, .int bad, .ref m13, .ref m14, .int plc, .int sta, .ref m17, .ref m18, .ref m19, .int shm])), (m1, .inl (G.2.1.1, 670, .inl w)), (m18, .inl (G.2.1.1, 640, .inl ring))] (some (.int ((f_X7_idle w ring p0).1))) [(m0, .inr (10, [.int ((f_X7_idle w ring p0).2.1), .ref m1, .ref m2, .ref m3, .int hf, .int hs, .ref m6, .int len, .int ec, .int ep, .int pos, .int bg, .int bad, .ref m13, .ref m14, .int plc, .int sta, .ref m17, .ref m18, .ref m19, .int shm])), (m1, .inl (G.2.1.1, 670, .inl ((f_X7_idle w ring p0).2.2.1))), (m18, .inl (G.2.1.1, 640, .inl ((f_X7_idle w ring p0).2.2.2)))] 0 0 := by
  refine gBegin (by decide +kernel) (Nat.le_of_ble_eq_true rfl) (fun p e s m args below meth c A F hr hlocks hname hN hK hP hD hA hS ls hl => ?_)
  obtain ⟨hx, hb, hml, hown, hts⟩ := id F
  replace hP : va_P G.1 vwCl [(m0, .inr (10, [.int rz, .ref m1, .ref m2, .ref m3, .int hf, .int hs, .ref m6, .int len, .int ec, .int ep, .int pos, .int bg, .int bad, .ref m13, .ref m14, .int plc, .int sta, .ref m17, .ref m18, .ref m19, .int shm])), (m1, .inl (G.2.1.1, 670, .inl w)), (m18, .inl (G.2.1.1, 640, .inl ring))] s.heap := hP
  replace hl : lv_has ls 2 [(0, .ref m0), (1, .int p0)] := hl
  refine lv_aload_n hx hb dX7_idle_0 rfl (lv_at hl 0 rfl) ?_
  refine lv_iconst (v := 0) hx hb dX7_idle_1 (by decide) ?_
  refine va_put (D := G.1) (ci := 10) (v := .int 0) (ty := .int) (C := RX7) (T := TX7) (N := 21) hx hb hts in_X7 tyX7 tyX7_ok nmX7 hown hK hP hD hS 0 rfl rfl 0 (by decide) (hts _ k_fl_X7_76) (fun _ h9 => h9) rfl (by decide +kernel) rfl rfl (Nat.le_of_ble_eq_true rfl) dX7_idle_2 (fun H locs hP hD hS => ?_)
  replace hP : va_P G.1 vwCl [(m0, .inr (10, [.int 0, .ref m1, .ref m2, .ref m3, .int hf, .int hs, .ref m6, .int len, .int ec, .int ep, .int pos, .int bg, .int bad, .ref m13, .ref m14, .int plc, .int sta, .ref m17, .ref m18, .ref m19, .int shm])), (m1, .inl (G.2.1.1, 670, .inl w)), (m18, .inl (G.2.1.1, 640, .inl ring))] H := hP
  replace hD : va_D A [(m0, .inr (10, [.int 0, .ref m1, .ref m2, .ref m3, .int hf, .int hs, .ref m6, .int len, .int ec, .int ep, .int pos, .int bg, .int bad, .ref m13, .ref m14, .int plc, .int sta, .ref m17, .ref m18, .ref m19, .int shm])), (m1, .inl (G.2.1.1, 670, .inl w)), (m18, .inl (G.2.1.1, 640, .inl ring))] := hD
  refine lv_iload_n hx hb dX7_idle_5 rfl (lv_at hl 1 rfl) ?_
  refine lv_i2l (v := (Int32.toInt64 p0)) hx hb dX7_idle_6 rfl ?_
  refine lv_lconst (v := 1) hx hb dX7_idle_7 (by decide) ?_
  refine lv_ldc2 (v := 3200) hx hb hown (hts _ k_lc_X7_315) dX7_idle_8 ?_
  refine gS (As := [.long (Int32.toInt64 p0), .long 1, .long 3200]) (rest := []) (wr := [(m0, .inr (10, [.int 0, .ref m1, .ref m2, .ref m3, .int hf, .int hs, .ref m6, .int len, .int ec, .int ep, .int pos, .int bg, .int bad, .ref m13, .ref m14, .int plc, .int sta, .ref m17, .ref m18, .ref m19, .int shm])), (m1, .inl (G.2.1.1, 670, .inl w)), (m18, .inl (G.2.1.1, 640, .inl ring))]) (ws' := [(m0, .inr (10, [.int 0, .ref m1, .ref m2, .ref m3, .int hf, .int hs, .ref m6, .int len, .int ec, .int ep, .int pos, .int bg, .int bad, .ref m13, .ref m14, .int plc, .int sta, .ref m17, .ref m18, .ref m19, .int shm])), (m1, .inl (G.2.1.1, 670, .inl w)), (m18, .inl (G.2.1.1, 640, .inl ring))]) F (c_X7_in l G (Int32.toInt64 p0) 1 3200) okS_X7_in k_ml_X7_81 rfl rfl ⟨Nat.le_of_ble_eq_true rfl, Nat.le_of_ble_eq_true rfl⟩ hN hK hP hD hS hA [] [0, 1, 2] [0, 1, 2] (by decide) rfl rfl (by decide) (by decide) (by decide) rfl rfl rfl hl.1 (Nat.le_of_ble_eq_true rfl) dX7_idle_11 ⟨Nat.le_refl _, Nat.le_refl _⟩ (fun H locs hP hD hS => ?_)
  refine lv_if_ne (tgt := 23) hx hb dX7_idle_14 (by decide) (fun c_1 => ?_) (fun c_1 => ?_)
  · skip
    refine lv_aload_n hx hb dX7_idle_23 rfl (lv_at hl 0 rfl) ?_
    refine lv_iload_n hx hb dX7_idle_24 rfl (lv_at hl 1 rfl) ?_
    refine W.eq (congrArg (fun z => F0 m _ ls [.int z, .ref m0]) (gI_nI (x := p0) (by have qc_1 := in_ofI (a := 1) (b := 3200) c_1 (by decide) (by decide); omega) : p0 = nI (Int32.toNatClampNeg p0))) ?_
    refine gV (As := [.int (nI (Int32.toNatClampNeg p0))]) (rest := []) (wr := []) (ws' := [(m0, .inr (10, [.int 0, .ref m1, .ref m2, .ref m3, .int hf, .int hs, .ref m6, .int len, .int ec, .int ep, .int pos, .int bg, .int bad, .ref m13, .ref m14, .int plc, .int sta, .ref m17, .ref m18, .ref m19, .int shm])), (m1, .inl (G.2.1.1, 670, .inl ((f_X7_passes w ring (Int32.toNatClampNeg p0)).1))), (m18, .inl (G.2.1.1, 640, .inl ((f_X7_passes w ring (Int32.toNatClampNeg p0)).2)))]) F (c_X7_passes l G m0 m1 m2 m3 m6 m13 m14 m17 m18 m19 0 hf hs len ec ep pos bg bad plc sta shm w ring (Int32.toNatClampNeg p0) (RT.le (b := 3202) hT (by have q := in_ofI (a := 1) (b := 3200) c_1 (by decide) (by decide); have e := gI_clamp (x := p0) (by omega); omega))) okV_X7_passes k_ml_X7_264 rfl rfl ⟨Nat.le_of_ble_eq_true rfl, Nat.le_of_ble_eq_true rfl⟩ hN hK hP hD hS hA [0, 1, 2] [] [0, 1, 2] (by decide) rfl rfl (by decide) (by decide) (by decide) rfl (q0 := 0) rfl rfl rfl rfl hl.1 (Nat.le_of_ble_eq_true rfl) dX7_idle_25 ⟨Nat.le_refl _, Nat.le_refl _⟩ (fun H locs hP hD hS => ?_)
    refine lv_aload_n hx hb dX7_idle_28 rfl (lv_at hl 0 rfl) ?_
    refine va_get (D := G.1) (ci := 10) (v := .ref m1) (C := RX7) (T := TX7) (N := 21) hx hb hts in_X7 hown hK hP 0 rfl rfl 1 (by decide) (hts _ k_fl_X7_7) (fun _ h9 => h9) rfl dX7_idle_29 ?_
    refine lv_iconst (v := 0) hx hb dX7_idle_32 (by decide) ?_
    refine gIald (k := 0) hx hb hK hP 1 0 rfl rfl (by decide) (gInL (by decide)) dX7_idle_33 ?_
    have ef : (f_X7_idle w ring p0) = ((((f_X7_passes w ring (Int32.toNatClampNeg p0)).1) 0), 0, (f_X7_passes w ring (Int32.toNatClampNeg p0)).1, (f_X7_passes w ring (Int32.toNatClampNeg p0)).2) := (if_neg c_1)
    exact gRetI F hr hlocks hK hP hD hS (by rw [ef]) (by rw [ef]) (Nat.le_of_ble_eq_true rfl) (Nat.le_of_ble_eq_true rfl) dX7_idle_34
  · skip
    refine lv_aload_n hx hb dX7_idle_17 rfl (lv_at hl 0 rfl) ?_
    refine lv_iconst (v := 1) hx hb dX7_idle_18 (by decide) ?_
    refine gV (As := [.int 1]) (rest := []) (wr := [(m1, .inl (G.2.1.1, 670, .inl w)), (m18, .inl (G.2.1.1, 640, .inl ring))]) (ws' := [(m0, .inr (10, [.int ((f_X7_fails 1).2), .ref m1, .ref m2, .ref m3, .int hf, .int hs, .ref m6, .int len, .int ec, .int ep, .int pos, .int bg, .int bad, .ref m13, .ref m14, .int plc, .int sta, .ref m17, .ref m18, .ref m19, .int shm])), (m1, .inl (G.2.1.1, 670, .inl w)), (m18, .inl (G.2.1.1, 640, .inl ring))]) F (c_X7_fails l G m0 m1 m2 m3 m6 m13 m14 m17 m18 m19 0 hf hs len ec ep pos bg bad plc sta shm 1) okV_X7_fails k_ml_X7_98 rfl rfl ⟨Nat.le_of_ble_eq_true rfl, Nat.le_of_ble_eq_true rfl⟩ hN hK hP hD hS hA [0] [1, 2] [2, 0, 1] (by decide) rfl rfl (by decide) (by decide) (by decide) rfl (q0 := 0) rfl rfl rfl rfl hl.1 (Nat.le_of_ble_eq_true rfl) dX7_idle_19 ⟨Nat.le_refl _, Nat.le_refl _⟩ (fun H locs hP hD hS => ?_)
    have ef : (f_X7_idle w ring p0) = ((f_X7_fails 1).1, (f_X7_fails 1).2, w, ring) := (if_pos c_1)
    exact gRetI F hr hlocks hK hP hD hS (by rw [ef]) (by rw [ef]) (Nat.le_of_ble_eq_true rfl) (Nat.le_of_ble_eq_true rfl) dX7_idle_22
theorem okV_X7_idle : gOkV yX7_idle cX7_idle 2 (some .int) 1 := ⟨⟨k_im_X7_idle, k_se_X7_idle, k_in_X7, k_cd_X7_idle⟩, by decide, by decide, by decide +kernel⟩
def f_X7_predictTime (w : Nat → Int32) (aside : Nat → Int32) (ring : Nat → Int32) (p0 : Int32) : Int32 × Int32 × (Nat → Int32) × (Nat → Int32) × (Nat → Int32) :=
  if (f_X7_whyNot w p0) ≤ 0 then
    (((((f_X7_runs w ring p0).2.1) 0) - (w 0)), (f_X7_whyNot w p0), (f_X7_takesBack ((f_X7_runs w ring p0).2.1) (f_X7_putsAside w aside)), (f_X7_putsAside w aside), (f_X7_runs w ring p0).2.2)
  else
    (0, (f_X7_whyNot w p0), w, aside, ring)
set_option maxRecDepth 100000 in
set_option maxHeartbeats 4000000 in
theorem c_X7_predictTime (l : Launch) (G : gG) (m0 : Nat) (m1 : Nat) (m2 : Nat) (m3 : Nat) (m6 : Nat) (m13 : Nat) (m14 : Nat) (m17 : Nat) (m18 : Nat) (m19 : Nat) (rz : Int32) (hf : Int32) (hs : Int32) (len : Int32) (ec : Int32) (ep : Int32) (pos : Int32) (bg : Int32) (bad : Int32) (plc : Int32) (sta : Int32) (shm : Int32) (w : Nat → Int32) (aside : Nat → Int32) (ring : Nat → Int32) (p0 : Int32) (hE : EI w 50101) : gM l G yX7_predictTime cX7_predictTime 5 (some .int) { frames := 9, cells := 0, slots := 0, locals := 200 } [.ref m0, .int p0] [(m0, .inr (10, [.int rz, .ref m1, .ref m2, .ref m3, .int hf, .int hs, .ref m6, .int len, .int ec, .int ep, .int pos, .int bg, .int bad, .ref m13, .ref m14, .int plc, .int sta, .ref m17, .ref m18, .ref m19, .int shm])), (m1, .inl (G.2.1.1, 670, .inl w)), (m2, .inl (G.2.1.1, 670, .inl aside)), (m18, .inl (G.2.1.1, 640, .inl ring))] (some (.int ((f_X7_predictTime w aside ring p0).1))) [(m0, .inr (10, [.int ((f_X7_predictTime w aside ring p0).2.1), .ref m1, .ref m2, .ref m3, .int hf, .int hs, .ref m6, .int len, .int ec, .int ep, .int pos, .int bg, .int bad, .ref m13, .ref m14, .int plc, .int sta, .ref m17, .ref m18, .ref m19, .int shm])), (m1, .inl (G.2.1.1, 670, .inl ((f_X7_predictTime w aside ring p0).2.2.1))), (m2, .inl (G.2.1.1, 670, .inl ((f_X7_predictTime w aside ring p0).2.2.2.1))), (m18, .inl (G.2.1.1, 640, .inl ((f_X7_predictTime w aside ring p0).2.2.2.2)))] 0 0 := by
  refine gBegin (by decide +kernel) (Nat.le_of_ble_eq_true rfl) (fun p e s m args below meth c A F hr hlocks hname hN hK hP hD hA hS ls hl => ?_)
  obtain ⟨hx, hb, hml, hown, hts⟩ := id F
  replace hP : va_P G.1 vwCl [(m0, .inr (10, [.int rz, .ref m1, .ref m2, .ref m3, .int hf, .int hs, .ref m6, .int len, .int ec, .int ep, .int pos, .int bg, .int bad, .ref m13, .ref m14, .int plc, .int sta, .ref m17, .ref m18, .ref m19, .int shm])), (m1, .inl (G.2.1.1, 670, .inl w)), (m2, .inl (G.2.1.1, 670, .inl aside)), (m18, .inl (G.2.1.1, 640, .inl ring))] s.heap := hP
  replace hl : lv_has ls 5 [(0, .ref m0), (1, .int p0)] := hl
  refine lv_aload_n hx hb dX7_predictTime_0 rfl (lv_at hl 0 rfl) ?_
  refine lv_aload_n hx hb dX7_predictTime_1 rfl (lv_at hl 0 rfl) ?_
  refine lv_iload_n hx hb dX7_predictTime_2 rfl (lv_at hl 1 rfl) ?_
  refine gV (As := [.int p0]) (rest := [.ref m0]) (wr := [(m2, .inl (G.2.1.1, 670, .inl aside)), (m18, .inl (G.2.1.1, 640, .inl ring))]) (ws' := [(m0, .inr (10, [.int rz, .ref m1, .ref m2, .ref m3, .int hf, .int hs, .ref m6, .int len, .int ec, .int ep, .int pos, .int bg, .int bad, .ref m13, .ref m14, .int plc, .int sta, .ref m17, .ref m18, .ref m19, .int shm])), (m1, .inl (G.2.1.1, 670, .inl w)), (m2, .inl (G.2.1.1, 670, .inl aside)), (m18, .inl (G.2.1.1, 640, .inl ring))]) F (c_X7_whyNot l G m0 m1 m2 m3 m6 m13 m14 m17 m18 m19 rz hf hs len ec ep pos bg bad plc sta shm w p0) okV_X7_whyNot k_ml_X7_309 rfl rfl ⟨Nat.le_of_ble_eq_true rfl, Nat.le_of_ble_eq_true rfl⟩ hN hK hP hD hS hA [0, 1] [2, 3] [2, 3, 0, 1] (by decide) rfl rfl (by decide) (by decide) (by decide) rfl (q0 := 0) rfl rfl rfl rfl hl.1 (Nat.le_of_ble_eq_true rfl) dX7_predictTime_3 ⟨Nat.le_refl _, Nat.le_refl _⟩ (fun H locs hP hD hS => ?_)
  refine va_put (D := G.1) (ci := 10) (v := .int (f_X7_whyNot w p0)) (ty := .int) (C := RX7) (T := TX7) (N := 21) hx hb hts in_X7 tyX7 tyX7_ok nmX7 hown hK hP hD hS 0 rfl rfl 0 (by decide) (hts _ k_fl_X7_76) (fun _ h9 => h9) rfl (by decide +kernel) rfl rfl (Nat.le_of_ble_eq_true rfl) dX7_predictTime_6 (fun H locs hP hD hS => ?_)
  replace hP : va_P G.1 vwCl [(m0, .inr (10, [.int (f_X7_whyNot w p0), .ref m1, .ref m2, .ref m3, .int hf, .int hs, .ref m6, .int len, .int ec, .int ep, .int pos, .int bg, .int bad, .ref m13, .ref m14, .int plc, .int sta, .ref m17, .ref m18, .ref m19, .int shm])), (m1, .inl (G.2.1.1, 670, .inl w)), (m2, .inl (G.2.1.1, 670, .inl aside)), (m18, .inl (G.2.1.1, 640, .inl ring))] H := hP
  replace hD : va_D A [(m0, .inr (10, [.int (f_X7_whyNot w p0), .ref m1, .ref m2, .ref m3, .int hf, .int hs, .ref m6, .int len, .int ec, .int ep, .int pos, .int bg, .int bad, .ref m13, .ref m14, .int plc, .int sta, .ref m17, .ref m18, .ref m19, .int shm])), (m1, .inl (G.2.1.1, 670, .inl w)), (m2, .inl (G.2.1.1, 670, .inl aside)), (m18, .inl (G.2.1.1, 640, .inl ring))] := hD
  refine lv_aload_n hx hb dX7_predictTime_9 rfl (lv_at hl 0 rfl) ?_
  refine va_get (D := G.1) (ci := 10) (v := .int (f_X7_whyNot w p0)) (C := RX7) (T := TX7) (N := 21) hx hb hts in_X7 hown hK hP 0 rfl rfl 0 (by decide) (hts _ k_fl_X7_76) (fun _ h9 => h9) rfl dX7_predictTime_10 ?_
  refine lv_if_le (tgt := 18) hx hb dX7_predictTime_13 (by decide) (fun c_1 => ?_) (fun c_1 => ?_)
  · skip
    refine lv_aload_n hx hb dX7_predictTime_18 rfl (lv_at hl 0 rfl) ?_
    refine gV (As := []) (rest := []) (wr := [(m18, .inl (G.2.1.1, 640, .inl ring))]) (ws' := [(m0, .inr (10, [.int (f_X7_whyNot w p0), .ref m1, .ref m2, .ref m3, .int hf, .int hs, .ref m6, .int len, .int ec, .int ep, .int pos, .int bg, .int bad, .ref m13, .ref m14, .int plc, .int sta, .ref m17, .ref m18, .ref m19, .int shm])), (m1, .inl (G.2.1.1, 670, .inl w)), (m2, .inl (G.2.1.1, 670, .inl (f_X7_putsAside w aside))), (m18, .inl (G.2.1.1, 640, .inl ring))]) F (c_X7_putsAside l G m0 m1 m2 m3 m6 m13 m14 m17 m18 m19 (f_X7_whyNot w p0) hf hs len ec ep pos bg bad plc sta shm w aside) okV_X7_putsAside k_ml_X7_239 rfl rfl ⟨Nat.le_of_ble_eq_true rfl, Nat.le_of_ble_eq_true rfl⟩ hN hK hP hD hS hA [0, 1, 2] [3] [1, 2, 3, 0] (by decide) rfl rfl (by decide) (by decide) (by decide) rfl (q0 := 0) rfl rfl rfl rfl hl.1 (Nat.le_of_ble_eq_true rfl) dX7_predictTime_19 ⟨Nat.le_refl _, Nat.le_refl _⟩ (fun H locs hP hD hS => ?_)
    refine lv_aload_n hx hb dX7_predictTime_22 rfl (lv_at hl 0 rfl) ?_
    refine va_get (D := G.1) (ci := 10) (v := .ref m1) (C := RX7) (T := TX7) (N := 21) hx hb hts in_X7 hown hK hP 0 rfl rfl 1 (by decide) (hts _ k_fl_X7_7) (fun _ h9 => h9) rfl dX7_predictTime_23 ?_
    refine lv_iconst (v := 0) hx hb dX7_predictTime_26 (by decide) ?_
    refine gIald (k := 0) hx hb hK hP 1 0 rfl rfl (by decide) (gInL (by decide)) dX7_predictTime_27 ?_
    refine lv_istore_n (lv' := [(2, .int (w 0)), (0, .ref m0), (1, .int p0)]) hx hb dX7_predictTime_28 rfl hl (by decide) rfl (fun ls hl => ?_)
    refine lv_aload_n hx hb dX7_predictTime_29 rfl (lv_at hl 1 rfl) ?_
    refine lv_iload_n hx hb dX7_predictTime_30 rfl (lv_at hl 2 rfl) ?_
    refine gV (As := [.int p0]) (rest := []) (wr := [(m2, .inl (G.2.1.1, 670, .inl (f_X7_putsAside w aside)))]) (ws' := [(m0, .inr (10, [.int (f_X7_whyNot w p0), .ref m1, .ref m2, .ref m3, .int hf, .int hs, .ref m6, .int len, .int ec, .int ep, .int pos, .int bg, .int bad, .ref m13, .ref m14, .int plc, .int sta, .ref m17, .ref m18, .ref m19, .int shm])), (m1, .inl (G.2.1.1, 670, .inl ((f_X7_runs w ring p0).2.1))), (m2, .inl (G.2.1.1, 670, .inl (f_X7_putsAside w aside))), (m18, .inl (G.2.1.1, 640, .inl ((f_X7_runs w ring p0).2.2)))]) F (c_X7_runs l G m0 m1 m2 m3 m6 m13 m14 m17 m18 m19 (f_X7_whyNot w p0) hf hs len ec ep pos bg bad plc sta shm w ring p0 (whyNot_0 c_1) hE) okV_X7_runs k_ml_X7_312 rfl rfl ⟨Nat.le_of_ble_eq_true rfl, Nat.le_of_ble_eq_true rfl⟩ hN hK hP hD hS hA [0, 1, 3] [2] [1, 2, 0, 3] (by decide) rfl rfl (by decide) (by decide) (by decide) rfl (q0 := 0) rfl rfl rfl rfl hl.1 (Nat.le_of_ble_eq_true rfl) dX7_predictTime_31 ⟨Nat.le_refl _, Nat.le_refl _⟩ (fun H locs hP hD hS => ?_)
    refine lv_istore_n (lv' := [(3, .int ((f_X7_runs w ring p0).1)), (2, .int (w 0)), (0, .ref m0), (1, .int p0)]) hx hb dX7_predictTime_34 rfl hl (by decide) rfl (fun ls hl => ?_)
    refine lv_aload_n hx hb dX7_predictTime_35 rfl (lv_at hl 2 rfl) ?_
    refine va_get (D := G.1) (ci := 10) (v := .ref m1) (C := RX7) (T := TX7) (N := 21) hx hb hts in_X7 hown hK hP 0 rfl rfl 1 (by decide) (hts _ k_fl_X7_7) (fun _ h9 => h9) rfl dX7_predictTime_36 ?_
    refine lv_iconst (v := 0) hx hb dX7_predictTime_39 (by decide) ?_
    refine gIald (k := 0) hx hb hK hP 1 0 rfl rfl (by decide) (gInL (by decide)) dX7_predictTime_40 ?_
    refine lv_iload_n hx hb dX7_predictTime_41 rfl (lv_at hl 1 rfl) ?_
    refine lv_isub hx hb dX7_predictTime_42 ?_
    refine lv_istore (lv' := [(4, .int ((((f_X7_runs w ring p0).2.1) 0) - (w 0))), (3, .int ((f_X7_runs w ring p0).1)), (2, .int (w 0)), (0, .ref m0), (1, .int p0)]) hx hb dX7_predictTime_43 hl (by decide) rfl (fun ls hl => ?_)
    refine lv_aload_n hx hb dX7_predictTime_45 rfl (lv_at hl 3 rfl) ?_
    refine gV (As := []) (rest := []) (wr := [(m18, .inl (G.2.1.1, 640, .inl ((f_X7_runs w ring p0).2.2)))]) (ws' := [(m0, .inr (10, [.int (f_X7_whyNot w p0), .ref m1, .ref m2, .ref m3, .int hf, .int hs, .ref m6, .int len, .int ec, .int ep, .int pos, .int bg, .int bad, .ref m13, .ref m14, .int plc, .int sta, .ref m17, .ref m18, .ref m19, .int shm])), (m1, .inl (G.2.1.1, 670, .inl (f_X7_takesBack ((f_X7_runs w ring p0).2.1) (f_X7_putsAside w aside)))), (m2, .inl (G.2.1.1, 670, .inl (f_X7_putsAside w aside))), (m18, .inl (G.2.1.1, 640, .inl ((f_X7_runs w ring p0).2.2)))]) F (c_X7_takesBack l G m0 m1 m2 m3 m6 m13 m14 m17 m18 m19 (f_X7_whyNot w p0) hf hs len ec ep pos bg bad plc sta shm ((f_X7_runs w ring p0).2.1) (f_X7_putsAside w aside)) okV_X7_takesBack k_ml_X7_249 rfl rfl ⟨Nat.le_of_ble_eq_true rfl, Nat.le_of_ble_eq_true rfl⟩ hN hK hP hD hS hA [0, 1, 2] [3] [1, 2, 3, 0] (by decide) rfl rfl (by decide) (by decide) (by decide) rfl (q0 := 0) rfl rfl rfl rfl hl.1 (Nat.le_of_ble_eq_true rfl) dX7_predictTime_46 ⟨Nat.le_refl _, Nat.le_refl _⟩ (fun H locs hP hD hS => ?_)
    refine lv_iload hx hb dX7_predictTime_49 (lv_at hl 0 rfl) ?_
    have ef : (f_X7_predictTime w aside ring p0) = (((((f_X7_runs w ring p0).2.1) 0) - (w 0)), (f_X7_whyNot w p0), (f_X7_takesBack ((f_X7_runs w ring p0).2.1) (f_X7_putsAside w aside)), (f_X7_putsAside w aside), (f_X7_runs w ring p0).2.2) := (if_pos c_1)
    exact gRetI F hr hlocks hK hP hD hS (by rw [ef]) (by rw [ef]) (Nat.le_of_ble_eq_true rfl) (Nat.le_of_ble_eq_true rfl) dX7_predictTime_51
  · skip
    refine lv_iconst (v := 0) hx hb dX7_predictTime_16 (by decide) ?_
    have ef : (f_X7_predictTime w aside ring p0) = (0, (f_X7_whyNot w p0), w, aside, ring) := (if_neg c_1)
    exact gRetI F hr hlocks hK hP hD hS (by rw [ef]) (by rw [ef]) (Nat.le_of_ble_eq_true rfl) (Nat.le_of_ble_eq_true rfl) dX7_predictTime_17
theorem okV_X7_predictTime : gOkV yX7_predictTime cX7_predictTime 5 (some .int) 1 := ⟨⟨k_im_X7_predictTime, k_se_X7_predictTime, k_in_X7, k_cd_X7_predictTime⟩, by decide, by decide, by decide +kernel⟩
def wl_X7_unsafeAfter (w : Nat → Int32) (aside : Nat → Int32) : Nat → Nat → (Nat → Int32) → Int32 × Int32 × (Nat → Int32) × (Nat → Int32)
  | 0, _, z1 =>
    if (nI 201) ≤ 200 then
      ((nI 201), 0, (f_X7_takesBack z1 (f_X7_putsAside w aside)), (f_X7_putsAside w aside))
    else
      ((-1), 0, (f_X7_takesBack z1 (f_X7_putsAside w aside)), (f_X7_putsAside w aside))
  | n + 1, k, z1 =>
    if (f_X7_areSafe z1) = 0 then
      if (nI k) ≤ 200 then
        ((nI k), 0, (f_X7_takesBack z1 (f_X7_putsAside w aside)), (f_X7_putsAside w aside))
      else
        ((-1), 0, (f_X7_takesBack z1 (f_X7_putsAside w aside)), (f_X7_putsAside w aside))
    else
      wl_X7_unsafeAfter w aside n (k + 1) (f_X7_warms z1)
def f_X7_unsafeAfter (w : Nat → Int32) (aside : Nat → Int32) : Int32 × Int32 × (Nat → Int32) × (Nat → Int32) :=
  (wl_X7_unsafeAfter w aside 201 0 w)
set_option maxRecDepth 100000 in
set_option maxHeartbeats 4000000 in
theorem c_X7_unsafeAfter (l : Launch) (G : gG) (m0 : Nat) (m1 : Nat) (m2 : Nat) (m3 : Nat) (m6 : Nat) (m13 : Nat) (m14 : Nat) (m17 : Nat) (m18 : Nat) (m19 : Nat) (rz : Int32) (hf : Int32) (hs : Int32) (len : Int32) (ec : Int32) (ep : Int32) (pos : Int32) (bg : Int32) (bad : Int32) (plc : Int32) (sta : Int32) (shm : Int32) (w : Nat → Int32) (aside : Nat → Int32) : gM l G yX7_unsafeAfter cX7_unsafeAfter 2 (some .int) { frames := 5, cells := 0, slots := 0, locals := 104 } [.ref m0] [(m0, .inr (10, [.int rz, .ref m1, .ref m2, .ref m3, .int hf, .int hs, .ref m6, .int len, .int ec, .int ep, .int pos, .int bg, .int bad, .ref m13, .ref m14, .int plc, .int sta, .ref m17, .ref m18, .ref m19, .int shm])), (m1, .inl (G.2.1.1, 670, .inl w)), (m2, .inl (G.2.1.1, 670, .inl aside))] (some (.int ((f_X7_unsafeAfter w aside).1))) [(m0, .inr (10, [.int ((f_X7_unsafeAfter w aside).2.1), .ref m1, .ref m2, .ref m3, .int hf, .int hs, .ref m6, .int len, .int ec, .int ep, .int pos, .int bg, .int bad, .ref m13, .ref m14, .int plc, .int sta, .ref m17, .ref m18, .ref m19, .int shm])), (m1, .inl (G.2.1.1, 670, .inl ((f_X7_unsafeAfter w aside).2.2.1))), (m2, .inl (G.2.1.1, 670, .inl ((f_X7_unsafeAfter w aside).2.2.2)))] 0 0 := by
  refine gBegin (by decide +kernel) (Nat.le_of_ble_eq_true rfl) (fun p e s m args below meth c A F hr hlocks hname hN hK hP hD hA hS ls hl => ?_)
  obtain ⟨hx, hb, hml, hown, hts⟩ := id F
  replace hP : va_P G.1 vwCl [(m0, .inr (10, [.int rz, .ref m1, .ref m2, .ref m3, .int hf, .int hs, .ref m6, .int len, .int ec, .int ep, .int pos, .int bg, .int bad, .ref m13, .ref m14, .int plc, .int sta, .ref m17, .ref m18, .ref m19, .int shm])), (m1, .inl (G.2.1.1, 670, .inl w)), (m2, .inl (G.2.1.1, 670, .inl aside))] s.heap := hP
  replace hl : lv_has ls 2 [(0, .ref m0)] := hl
  refine lv_aload_n hx hb dX7_unsafeAfter_0 rfl (lv_at hl 0 rfl) ?_
  refine lv_iconst (v := 0) hx hb dX7_unsafeAfter_1 (by decide) ?_
  refine va_put (D := G.1) (ci := 10) (v := .int 0) (ty := .int) (C := RX7) (T := TX7) (N := 21) hx hb hts in_X7 tyX7 tyX7_ok nmX7 hown hK hP hD hS 0 rfl rfl 0 (by decide) (hts _ k_fl_X7_76) (fun _ h9 => h9) rfl (by decide +kernel) rfl rfl (Nat.le_of_ble_eq_true rfl) dX7_unsafeAfter_2 (fun H locs hP hD hS => ?_)
  replace hP : va_P G.1 vwCl [(m0, .inr (10, [.int 0, .ref m1, .ref m2, .ref m3, .int hf, .int hs, .ref m6, .int len, .int ec, .int ep, .int pos, .int bg, .int bad, .ref m13, .ref m14, .int plc, .int sta, .ref m17, .ref m18, .ref m19, .int shm])), (m1, .inl (G.2.1.1, 670, .inl w)), (m2, .inl (G.2.1.1, 670, .inl aside))] H := hP
  replace hD : va_D A [(m0, .inr (10, [.int 0, .ref m1, .ref m2, .ref m3, .int hf, .int hs, .ref m6, .int len, .int ec, .int ep, .int pos, .int bg, .int bad, .ref m13, .ref m14, .int plc, .int sta, .ref m17, .ref m18, .ref m19, .int shm])), (m1, .inl (G.2.1.1, 670, .inl w)), (m2, .inl (G.2.1.1, 670, .inl aside))] := hD
  refine lv_aload_n hx hb dX7_unsafeAfter_5 rfl (lv_at hl 0 rfl) ?_
  refine gV (As := []) (rest := []) (wr := []) (ws' := [(m0, .inr (10, [.int 0, .ref m1, .ref m2, .ref m3, .int hf, .int hs, .ref m6, .int len, .int ec, .int ep, .int pos, .int bg, .int bad, .ref m13, .ref m14, .int plc, .int sta, .ref m17, .ref m18, .ref m19, .int shm])), (m1, .inl (G.2.1.1, 670, .inl w)), (m2, .inl (G.2.1.1, 670, .inl (f_X7_putsAside w aside)))]) F (c_X7_putsAside l G m0 m1 m2 m3 m6 m13 m14 m17 m18 m19 0 hf hs len ec ep pos bg bad plc sta shm w aside) okV_X7_putsAside k_ml_X7_239 rfl rfl ⟨Nat.le_of_ble_eq_true rfl, Nat.le_of_ble_eq_true rfl⟩ hN hK hP hD hS hA [0, 1, 2] [] [0, 1, 2] (by decide) rfl rfl (by decide) (by decide) (by decide) rfl (q0 := 0) rfl rfl rfl rfl hl.1 (Nat.le_of_ble_eq_true rfl) dX7_unsafeAfter_6 ⟨Nat.le_refl _, Nat.le_refl _⟩ (fun H locs hP hD hS => ?_)
  refine lv_iconst (v := 0) hx hb dX7_unsafeAfter_9 (by decide) ?_
  refine lv_istore_n (lv' := [(1, .int 0), (0, .ref m0)]) hx hb dX7_unsafeAfter_10 rfl hl (by decide) rfl (fun ls hl => ?_)
  have loop_11 : ∀ (fu k : Nat) (z1 : Nat → Int32), k + fu = 201 → (f_X7_unsafeAfter w aside) = wl_X7_unsafeAfter w aside fu k z1 → ∀ (H : Heap) (locs : List Loc), va_P G.1 vwCl [(m0, .inr (10, [.int 0, .ref m1, .ref m2, .ref m3, .int hf, .int hs, .ref m6, .int len, .int ec, .int ep, .int pos, .int bg, .int bad, .ref m13, .ref m14, .int plc, .int sta, .ref m17, .ref m18, .ref m19, .int shm])), (m1, .inl (G.2.1.1, 670, .inl z1)), (m2, .inl (G.2.1.1, 670, .inl (f_X7_putsAside w aside)))] H → va_D A [(m0, .inr (10, [.int 0, .ref m1, .ref m2, .ref m3, .int hf, .int hs, .ref m6, .int len, .int ec, .int ep, .int pos, .int bg, .int bad, .ref m13, .ref m14, .int plc, .int sta, .ref m17, .ref m18, .ref m19, .int shm])), (m1, .inl (G.2.1.1, 670, .inl z1)), (m2, .inl (G.2.1.1, 670, .inl (f_X7_putsAside w aside)))] → va_S A s.heap H locs → ∀ ls : Array Slot, lv_has ls 2 [(1, .int (nI k)), (0, .ref m0)] → W p l e { frames := 5, cells := 0, slots := 0, locals := 104 } s m args below meth c H locs 0 0 (MQ below (gQ G (some (.int ((f_X7_unsafeAfter w aside).1))) [(m0, .inr (10, [.int ((f_X7_unsafeAfter w aside).2.1), .ref m1, .ref m2, .ref m3, .int hf, .int hs, .ref m6, .int len, .int ec, .int ep, .int pos, .int bg, .int bad, .ref m13, .ref m14, .int plc, .int sta, .ref m17, .ref m18, .ref m19, .int shm])), (m1, .inl (G.2.1.1, 670, .inl ((f_X7_unsafeAfter w aside).2.2.1))), (m2, .inl (G.2.1.1, 670, .inl ((f_X7_unsafeAfter w aside).2.2.2)))] A) args s 0 0 A) (F0 m 11 ls []) := by
    intro fu
    induction fu with
    | zero =>
      intro k z1 hk hO H locs hP hD hS ls hl
      have ek : 201 = k := by omega
      subst ek
      refine lv_iload_n hx hb dX7_unsafeAfter_11 rfl (lv_at hl 0 rfl) ?_
      refine lv_sipush (v := 200) hx hb dX7_unsafeAfter_12 (by decide) ?_
      refine lv_icmp_gt (tgt := 35) hx hb dX7_unsafeAfter_15 (by decide) (fun c_1 => ?_) (fun c_1 => ?_)
      · skip
        refine lv_aload_n hx hb dX7_unsafeAfter_35 rfl (lv_at hl 1 rfl) ?_
        refine gV (As := []) (rest := []) (wr := []) (ws' := [(m0, .inr (10, [.int 0, .ref m1, .ref m2, .ref m3, .int hf, .int hs, .ref m6, .int len, .int ec, .int ep, .int pos, .int bg, .int bad, .ref m13, .ref m14, .int plc, .int sta, .ref m17, .ref m18, .ref m19, .int shm])), (m1, .inl (G.2.1.1, 670, .inl (f_X7_takesBack z1 (f_X7_putsAside w aside)))), (m2, .inl (G.2.1.1, 670, .inl (f_X7_putsAside w aside)))]) F (c_X7_takesBack l G m0 m1 m2 m3 m6 m13 m14 m17 m18 m19 0 hf hs len ec ep pos bg bad plc sta shm z1 (f_X7_putsAside w aside)) okV_X7_takesBack k_ml_X7_249 rfl rfl ⟨Nat.le_of_ble_eq_true rfl, Nat.le_of_ble_eq_true rfl⟩ hN hK hP hD hS hA [0, 1, 2] [] [0, 1, 2] (by decide) rfl rfl (by decide) (by decide) (by decide) rfl (q0 := 0) rfl rfl rfl rfl hl.1 (Nat.le_of_ble_eq_true rfl) dX7_unsafeAfter_36 ⟨Nat.le_refl _, Nat.le_refl _⟩ (fun H locs hP hD hS => ?_)
        refine lv_iload_n hx hb dX7_unsafeAfter_39 rfl (lv_at hl 0 rfl) ?_
        refine lv_sipush (v := 200) hx hb dX7_unsafeAfter_40 (by decide) ?_
        refine lv_icmp_le (tgt := 50) hx hb dX7_unsafeAfter_43 (by decide) (fun c_2 => ?_) (fun c_2 => ?_)
        · skip
          refine lv_iload_n hx hb dX7_unsafeAfter_50 rfl (lv_at hl 0 rfl) ?_
          have ef : (f_X7_unsafeAfter w aside) = ((nI 201), 0, (f_X7_takesBack z1 (f_X7_putsAside w aside)), (f_X7_putsAside w aside)) := (hO.trans (if_pos c_2))
          exact gRetI F hr hlocks hK hP hD hS (by rw [ef]) (by rw [ef]) (Nat.le_of_ble_eq_true rfl) (Nat.le_of_ble_eq_true rfl) dX7_unsafeAfter_51
        · skip
          refine lv_iconst (v := (-1)) hx hb dX7_unsafeAfter_46 (by decide) ?_
          refine lv_goto (tgt := 51) hx hb dX7_unsafeAfter_47 (by decide) ?_
          have ef : (f_X7_unsafeAfter w aside) = ((-1), 0, (f_X7_takesBack z1 (f_X7_putsAside w aside)), (f_X7_putsAside w aside)) := (hO.trans (if_neg c_2))
          exact gRetI F hr hlocks hK hP hD hS (by rw [ef]) (by rw [ef]) (Nat.le_of_ble_eq_true rfl) (Nat.le_of_ble_eq_true rfl) dX7_unsafeAfter_51
      · exact absurd (by decide : (200 : Int32) < nI 201) c_1
    | succ fu ih =>
      intro k z1 hk hO H locs hP hD hS ls hl
      have hlt_k : k < 201 := by omega
      refine lv_iload_n hx hb dX7_unsafeAfter_11 rfl (lv_at hl 0 rfl) ?_
      refine lv_sipush (v := 200) hx hb dX7_unsafeAfter_12 (by decide) ?_
      refine lv_icmp_gt (tgt := 35) hx hb dX7_unsafeAfter_15 (by decide) (fun c_3 => ?_) (fun c_3 => ?_)
      · exact absurd c_3 (nI_nlt (a := 200) (b := k) (by omega) (by decide))
      · skip
        refine lv_aload_n hx hb dX7_unsafeAfter_18 rfl (lv_at hl 1 rfl) ?_
        refine gV (As := []) (rest := []) (wr := [(m2, .inl (G.2.1.1, 670, .inl (f_X7_putsAside w aside)))]) (ws' := [(m0, .inr (10, [.int 0, .ref m1, .ref m2, .ref m3, .int hf, .int hs, .ref m6, .int len, .int ec, .int ep, .int pos, .int bg, .int bad, .ref m13, .ref m14, .int plc, .int sta, .ref m17, .ref m18, .ref m19, .int shm])), (m1, .inl (G.2.1.1, 670, .inl z1)), (m2, .inl (G.2.1.1, 670, .inl (f_X7_putsAside w aside)))]) F (c_X7_areSafe l G m0 m1 m2 m3 m6 m13 m14 m17 m18 m19 0 hf hs len ec ep pos bg bad plc sta shm z1) okV_X7_areSafe k_ml_X7_242 rfl rfl ⟨Nat.le_of_ble_eq_true rfl, Nat.le_of_ble_eq_true rfl⟩ hN hK hP hD hS hA [0, 1] [2] [1, 2, 0] (by decide) rfl rfl (by decide) (by decide) (by decide) rfl (q0 := 0) rfl rfl rfl rfl hl.1 (Nat.le_of_ble_eq_true rfl) dX7_unsafeAfter_19 ⟨Nat.le_refl _, Nat.le_refl _⟩ (fun H locs hP hD hS => ?_)
        refine lv_if_eq (tgt := 35) hx hb dX7_unsafeAfter_22 (by decide) (fun c_4 => ?_) (fun c_4 => ?_)
        · skip
          refine lv_aload_n hx hb dX7_unsafeAfter_35 rfl (lv_at hl 1 rfl) ?_
          refine gV (As := []) (rest := []) (wr := []) (ws' := [(m0, .inr (10, [.int 0, .ref m1, .ref m2, .ref m3, .int hf, .int hs, .ref m6, .int len, .int ec, .int ep, .int pos, .int bg, .int bad, .ref m13, .ref m14, .int plc, .int sta, .ref m17, .ref m18, .ref m19, .int shm])), (m1, .inl (G.2.1.1, 670, .inl (f_X7_takesBack z1 (f_X7_putsAside w aside)))), (m2, .inl (G.2.1.1, 670, .inl (f_X7_putsAside w aside)))]) F (c_X7_takesBack l G m0 m1 m2 m3 m6 m13 m14 m17 m18 m19 0 hf hs len ec ep pos bg bad plc sta shm z1 (f_X7_putsAside w aside)) okV_X7_takesBack k_ml_X7_249 rfl rfl ⟨Nat.le_of_ble_eq_true rfl, Nat.le_of_ble_eq_true rfl⟩ hN hK hP hD hS hA [0, 1, 2] [] [0, 1, 2] (by decide) rfl rfl (by decide) (by decide) (by decide) rfl (q0 := 0) rfl rfl rfl rfl hl.1 (Nat.le_of_ble_eq_true rfl) dX7_unsafeAfter_36 ⟨Nat.le_refl _, Nat.le_refl _⟩ (fun H locs hP hD hS => ?_)
          refine lv_iload_n hx hb dX7_unsafeAfter_39 rfl (lv_at hl 0 rfl) ?_
          refine lv_sipush (v := 200) hx hb dX7_unsafeAfter_40 (by decide) ?_
          refine lv_icmp_le (tgt := 50) hx hb dX7_unsafeAfter_43 (by decide) (fun c_5 => ?_) (fun c_5 => ?_)
          · skip
            refine lv_iload_n hx hb dX7_unsafeAfter_50 rfl (lv_at hl 0 rfl) ?_
            have ef : (f_X7_unsafeAfter w aside) = ((nI k), 0, (f_X7_takesBack z1 (f_X7_putsAside w aside)), (f_X7_putsAside w aside)) := (hO.trans (((if_pos c_4).trans (if_pos c_5))))
            exact gRetI F hr hlocks hK hP hD hS (by rw [ef]) (by rw [ef]) (Nat.le_of_ble_eq_true rfl) (Nat.le_of_ble_eq_true rfl) dX7_unsafeAfter_51
          · skip
            refine lv_iconst (v := (-1)) hx hb dX7_unsafeAfter_46 (by decide) ?_
            refine lv_goto (tgt := 51) hx hb dX7_unsafeAfter_47 (by decide) ?_
            have ef : (f_X7_unsafeAfter w aside) = ((-1), 0, (f_X7_takesBack z1 (f_X7_putsAside w aside)), (f_X7_putsAside w aside)) := (hO.trans (((if_pos c_4).trans (if_neg c_5))))
            exact gRetI F hr hlocks hK hP hD hS (by rw [ef]) (by rw [ef]) (Nat.le_of_ble_eq_true rfl) (Nat.le_of_ble_eq_true rfl) dX7_unsafeAfter_51
        · skip
          refine lv_aload_n hx hb dX7_unsafeAfter_25 rfl (lv_at hl 1 rfl) ?_
          refine gV (As := []) (rest := []) (wr := [(m2, .inl (G.2.1.1, 670, .inl (f_X7_putsAside w aside)))]) (ws' := [(m0, .inr (10, [.int 0, .ref m1, .ref m2, .ref m3, .int hf, .int hs, .ref m6, .int len, .int ec, .int ep, .int pos, .int bg, .int bad, .ref m13, .ref m14, .int plc, .int sta, .ref m17, .ref m18, .ref m19, .int shm])), (m1, .inl (G.2.1.1, 670, .inl (f_X7_warms z1))), (m2, .inl (G.2.1.1, 670, .inl (f_X7_putsAside w aside)))]) F (c_X7_warms l G m0 m1 m2 m3 m6 m13 m14 m17 m18 m19 0 hf hs len ec ep pos bg bad plc sta shm z1) okV_X7_warms k_ml_X7_246 rfl rfl ⟨Nat.le_of_ble_eq_true rfl, Nat.le_of_ble_eq_true rfl⟩ hN hK hP hD hS hA [0, 1] [2] [1, 2, 0] (by decide) rfl rfl (by decide) (by decide) (by decide) rfl (q0 := 0) rfl rfl rfl rfl hl.1 (Nat.le_of_ble_eq_true rfl) dX7_unsafeAfter_26 ⟨Nat.le_refl _, Nat.le_refl _⟩ (fun H locs hP hD hS => ?_)
          refine lv_iinc (v := (nI (k + 1))) (lv' := [(1, .int (nI (k + 1))), (0, .ref m0)]) hx hb dX7_unsafeAfter_29 hl (k := 0) rfl (nI_1 k) (by decide) rfl (fun ls hl => ?_)
          refine lv_goto (tgt := 11) hx hb dX7_unsafeAfter_32 (by decide) ?_
          exact ih (k + 1) (f_X7_warms z1) (by omega) (hO.trans (if_neg c_4)) _ _ hP hD hS ls (lv_sub hl [0, 1] rfl)
  exact loop_11 201 0 w (by omega) (rfl) _ _ hP hD hS ls (lv_sub hl [0, 1] rfl)
theorem okV_X7_unsafeAfter : gOkV yX7_unsafeAfter cX7_unsafeAfter 2 (some .int) 0 := ⟨⟨k_im_X7_unsafeAfter, k_se_X7_unsafeAfter, k_in_X7, k_cd_X7_unsafeAfter⟩, by decide, by decide, by decide +kernel⟩
def st_X7_save_23 (w : Nat → Int32) (p0 : Int32) (k : Nat) (v0_ : Nat → Int32) : (Nat → Int32) :=
  (upd v0_ (Int32.toNatClampNeg ((670 * p0) + (nI k))) (w k))
def it_X7_save_23 (w : Nat → Int32) (saved : Nat → Int32) (p0 : Int32) : Nat → (Nat → Int32)
  | 0 => saved
  | i + 1 => st_X7_save_23 w p0 i (it_X7_save_23 w saved p0 i)
def f_X7_save (hf : Int32) (hs : Int32) (w : Nat → Int32) (saved : Nat → Int32) (p0 : Int32) : Int32 × Int32 × Int32 × (Nat → Int32) :=
  if (f_X7_in (Int32.toInt64 p0) 0 1) = 0 then
    (1, hf, hs, saved)
  else
    if hf = 0 then
      if p0 = 0 then
        if hs = 0 then
          (0, 1, 0, (it_X7_save_23 w saved p0 670))
        else
          (0, 1, 1, (it_X7_save_23 w saved p0 670))
      else
        if hs = 0 then
          if p0 = 1 then
            (0, 0, 1, (it_X7_save_23 w saved p0 670))
          else
            (0, 0, 0, (it_X7_save_23 w saved p0 670))
        else
          (0, 0, 1, (it_X7_save_23 w saved p0 670))
    else
      if hs = 0 then
        if p0 = 1 then
          (0, 1, 1, (it_X7_save_23 w saved p0 670))
        else
          (0, 1, 0, (it_X7_save_23 w saved p0 670))
      else
        (0, 1, 1, (it_X7_save_23 w saved p0 670))
set_option maxRecDepth 100000 in
set_option maxHeartbeats 4000000 in
theorem c_X7_save (l : Launch) (G : gG) (m0 : Nat) (m1 : Nat) (m2 : Nat) (m3 : Nat) (m6 : Nat) (m13 : Nat) (m14 : Nat) (m17 : Nat) (m18 : Nat) (m19 : Nat) (rz : Int32) (hf : Int32) (hs : Int32) (len : Int32) (ec : Int32) (ep : Int32) (pos : Int32) (bg : Int32) (bad : Int32) (plc : Int32) (sta : Int32) (shm : Int32) (w : Nat → Int32) (saved : Nat → Int32) (p0 : Int32) : gM l G yX7_save cX7_save 3 none { frames := 1, cells := 0, slots := 0, locals := 25 } [.ref m0, .int p0] [(m0, .inr (10, [.int rz, .ref m1, .ref m2, .ref m3, .int hf, .int hs, .ref m6, .int len, .int ec, .int ep, .int pos, .int bg, .int bad, .ref m13, .ref m14, .int plc, .int sta, .ref m17, .ref m18, .ref m19, .int shm])), (m1, .inl (G.2.1.1, 670, .inl w)), (m3, .inl (G.2.1.1, 1340, .inl saved))] none [(m0, .inr (10, [.int ((f_X7_save hf hs w saved p0).1), .ref m1, .ref m2, .ref m3, .int ((f_X7_save hf hs w saved p0).2.1), .int ((f_X7_save hf hs w saved p0).2.2.1), .ref m6, .int len, .int ec, .int ep, .int pos, .int bg, .int bad, .ref m13, .ref m14, .int plc, .int sta, .ref m17, .ref m18, .ref m19, .int shm])), (m1, .inl (G.2.1.1, 670, .inl w)), (m3, .inl (G.2.1.1, 1340, .inl ((f_X7_save hf hs w saved p0).2.2.2)))] 0 0 := by
  refine gBegin (by decide +kernel) (Nat.le_of_ble_eq_true rfl) (fun p e s m args below meth c A F hr hlocks hname hN hK hP hD hA hS ls hl => ?_)
  obtain ⟨hx, hb, hml, hown, hts⟩ := id F
  replace hP : va_P G.1 vwCl [(m0, .inr (10, [.int rz, .ref m1, .ref m2, .ref m3, .int hf, .int hs, .ref m6, .int len, .int ec, .int ep, .int pos, .int bg, .int bad, .ref m13, .ref m14, .int plc, .int sta, .ref m17, .ref m18, .ref m19, .int shm])), (m1, .inl (G.2.1.1, 670, .inl w)), (m3, .inl (G.2.1.1, 1340, .inl saved))] s.heap := hP
  replace hl : lv_has ls 3 [(0, .ref m0), (1, .int p0)] := hl
  refine lv_aload_n hx hb dX7_save_0 rfl (lv_at hl 0 rfl) ?_
  refine lv_iconst (v := 0) hx hb dX7_save_1 (by decide) ?_
  refine va_put (D := G.1) (ci := 10) (v := .int 0) (ty := .int) (C := RX7) (T := TX7) (N := 21) hx hb hts in_X7 tyX7 tyX7_ok nmX7 hown hK hP hD hS 0 rfl rfl 0 (by decide) (hts _ k_fl_X7_76) (fun _ h9 => h9) rfl (by decide +kernel) rfl rfl (Nat.le_of_ble_eq_true rfl) dX7_save_2 (fun H locs hP hD hS => ?_)
  replace hP : va_P G.1 vwCl [(m0, .inr (10, [.int 0, .ref m1, .ref m2, .ref m3, .int hf, .int hs, .ref m6, .int len, .int ec, .int ep, .int pos, .int bg, .int bad, .ref m13, .ref m14, .int plc, .int sta, .ref m17, .ref m18, .ref m19, .int shm])), (m1, .inl (G.2.1.1, 670, .inl w)), (m3, .inl (G.2.1.1, 1340, .inl saved))] H := hP
  replace hD : va_D A [(m0, .inr (10, [.int 0, .ref m1, .ref m2, .ref m3, .int hf, .int hs, .ref m6, .int len, .int ec, .int ep, .int pos, .int bg, .int bad, .ref m13, .ref m14, .int plc, .int sta, .ref m17, .ref m18, .ref m19, .int shm])), (m1, .inl (G.2.1.1, 670, .inl w)), (m3, .inl (G.2.1.1, 1340, .inl saved))] := hD
  refine lv_iload_n hx hb dX7_save_5 rfl (lv_at hl 1 rfl) ?_
  refine lv_i2l (v := (Int32.toInt64 p0)) hx hb dX7_save_6 rfl ?_
  refine lv_lconst (v := 0) hx hb dX7_save_7 (by decide) ?_
  refine lv_lconst (v := 1) hx hb dX7_save_8 (by decide) ?_
  refine gS (As := [.long (Int32.toInt64 p0), .long 0, .long 1]) (rest := []) (wr := [(m0, .inr (10, [.int 0, .ref m1, .ref m2, .ref m3, .int hf, .int hs, .ref m6, .int len, .int ec, .int ep, .int pos, .int bg, .int bad, .ref m13, .ref m14, .int plc, .int sta, .ref m17, .ref m18, .ref m19, .int shm])), (m1, .inl (G.2.1.1, 670, .inl w)), (m3, .inl (G.2.1.1, 1340, .inl saved))]) (ws' := [(m0, .inr (10, [.int 0, .ref m1, .ref m2, .ref m3, .int hf, .int hs, .ref m6, .int len, .int ec, .int ep, .int pos, .int bg, .int bad, .ref m13, .ref m14, .int plc, .int sta, .ref m17, .ref m18, .ref m19, .int shm])), (m1, .inl (G.2.1.1, 670, .inl w)), (m3, .inl (G.2.1.1, 1340, .inl saved))]) F (c_X7_in l G (Int32.toInt64 p0) 0 1) okS_X7_in k_ml_X7_81 rfl rfl ⟨Nat.le_of_ble_eq_true rfl, Nat.le_of_ble_eq_true rfl⟩ hN hK hP hD hS hA [] [0, 1, 2] [0, 1, 2] (by decide) rfl rfl (by decide) (by decide) (by decide) rfl rfl rfl hl.1 (Nat.le_of_ble_eq_true rfl) dX7_save_9 ⟨Nat.le_refl _, Nat.le_refl _⟩ (fun H locs hP hD hS => ?_)
  refine lv_if_ne (tgt := 21) hx hb dX7_save_12 (by decide) (fun c_1 => ?_) (fun c_1 => ?_)
  · skip
    refine lv_iconst (v := 0) hx hb dX7_save_21 (by decide) ?_
    refine lv_istore_n (lv' := [(2, .int 0), (0, .ref m0), (1, .int p0)]) hx hb dX7_save_22 rfl hl (by decide) rfl (fun ls hl => ?_)
    have loop_23 : ∀ (fu k : Nat), k + fu = 670 → ∀ (H : Heap) (locs : List Loc), va_P G.1 vwCl [(m0, .inr (10, [.int 0, .ref m1, .ref m2, .ref m3, .int hf, .int hs, .ref m6, .int len, .int ec, .int ep, .int pos, .int bg, .int bad, .ref m13, .ref m14, .int plc, .int sta, .ref m17, .ref m18, .ref m19, .int shm])), (m1, .inl (G.2.1.1, 670, .inl w)), (m3, .inl (G.2.1.1, 1340, .inl (it_X7_save_23 w saved p0 k)))] H → va_D A [(m0, .inr (10, [.int 0, .ref m1, .ref m2, .ref m3, .int hf, .int hs, .ref m6, .int len, .int ec, .int ep, .int pos, .int bg, .int bad, .ref m13, .ref m14, .int plc, .int sta, .ref m17, .ref m18, .ref m19, .int shm])), (m1, .inl (G.2.1.1, 670, .inl w)), (m3, .inl (G.2.1.1, 1340, .inl (it_X7_save_23 w saved p0 k)))] → va_S A s.heap H locs → ∀ ls : Array Slot, lv_has ls 3 [(2, .int (nI k)), (0, .ref m0), (1, .int p0)] → W p l e { frames := 1, cells := 0, slots := 0, locals := 25 } s m args below meth c H locs 0 0 (MQ below (gQ G none [(m0, .inr (10, [.int ((f_X7_save hf hs w saved p0).1), .ref m1, .ref m2, .ref m3, .int ((f_X7_save hf hs w saved p0).2.1), .int ((f_X7_save hf hs w saved p0).2.2.1), .ref m6, .int len, .int ec, .int ep, .int pos, .int bg, .int bad, .ref m13, .ref m14, .int plc, .int sta, .ref m17, .ref m18, .ref m19, .int shm])), (m1, .inl (G.2.1.1, 670, .inl w)), (m3, .inl (G.2.1.1, 1340, .inl ((f_X7_save hf hs w saved p0).2.2.2)))] A) args s 0 0 A) (F0 m 23 ls []) := by
      intro fu
      induction fu with
      | zero =>
        intro k hk H locs hP hD hS ls hl
        have ek : 670 = k := by omega
        subst ek
        replace hP : va_P G.1 vwCl [(m0, .inr (10, [.int 0, .ref m1, .ref m2, .ref m3, .int hf, .int hs, .ref m6, .int len, .int ec, .int ep, .int pos, .int bg, .int bad, .ref m13, .ref m14, .int plc, .int sta, .ref m17, .ref m18, .ref m19, .int shm])), (m1, .inl (G.2.1.1, 670, .inl w)), (m3, .inl (G.2.1.1, 1340, .inl (it_X7_save_23 w saved p0 670)))] H := hP
        replace hD : va_D A [(m0, .inr (10, [.int 0, .ref m1, .ref m2, .ref m3, .int hf, .int hs, .ref m6, .int len, .int ec, .int ep, .int pos, .int bg, .int bad, .ref m13, .ref m14, .int plc, .int sta, .ref m17, .ref m18, .ref m19, .int shm])), (m1, .inl (G.2.1.1, 670, .inl w)), (m3, .inl (G.2.1.1, 1340, .inl (it_X7_save_23 w saved p0 670)))] := hD
        replace hl : lv_has ls 3 [(2, .int (nI 670)), (0, .ref m0), (1, .int p0)] := hl
        refine lv_iload_n hx hb dX7_save_23 rfl (lv_at hl 0 rfl) ?_
        refine lv_sipush (v := 670) hx hb dX7_save_24 (by decide) ?_
        refine lv_icmp_ge (tgt := 54) hx hb dX7_save_27 (by decide) (fun c_2 => ?_) (fun c_2 => ?_)
        · skip
          refine lv_aload_n hx hb dX7_save_54 rfl (lv_at hl 1 rfl) ?_
          refine lv_aload_n hx hb dX7_save_55 rfl (lv_at hl 1 rfl) ?_
          refine va_get (D := G.1) (ci := 10) (v := .int hf) (C := RX7) (T := TX7) (N := 21) hx hb hts in_X7 hown hK hP 0 rfl rfl 4 (by decide) (hts _ k_fl_X7_347) (fun _ h9 => h9) rfl dX7_save_56 ?_
          refine lv_if_ne (tgt := 66) hx hb dX7_save_59 (by decide) (fun c_3 => ?_) (fun c_3 => ?_)
          · skip
            refine lv_iconst (v := 1) hx hb dX7_save_66 (by decide) ?_
            refine lv_goto (tgt := 71) hx hb dX7_save_67 (by decide) ?_
            refine va_put (D := G.1) (ci := 10) (v := .int 1) (ty := .boolean) (C := RX7) (T := TX7) (N := 21) hx hb hts in_X7 tyX7 tyX7_ok nmX7 hown hK hP hD hS 0 rfl rfl 4 (by decide) (hts _ k_fl_X7_347) (fun _ h9 => h9) rfl (by decide +kernel) rfl rfl (Nat.le_of_ble_eq_true rfl) dX7_save_71 (fun H locs hP hD hS => ?_)
            replace hP : va_P G.1 vwCl [(m0, .inr (10, [.int 0, .ref m1, .ref m2, .ref m3, .int 1, .int hs, .ref m6, .int len, .int ec, .int ep, .int pos, .int bg, .int bad, .ref m13, .ref m14, .int plc, .int sta, .ref m17, .ref m18, .ref m19, .int shm])), (m1, .inl (G.2.1.1, 670, .inl w)), (m3, .inl (G.2.1.1, 1340, .inl (it_X7_save_23 w saved p0 670)))] H := hP
            replace hD : va_D A [(m0, .inr (10, [.int 0, .ref m1, .ref m2, .ref m3, .int 1, .int hs, .ref m6, .int len, .int ec, .int ep, .int pos, .int bg, .int bad, .ref m13, .ref m14, .int plc, .int sta, .ref m17, .ref m18, .ref m19, .int shm])), (m1, .inl (G.2.1.1, 670, .inl w)), (m3, .inl (G.2.1.1, 1340, .inl (it_X7_save_23 w saved p0 670)))] := hD
            refine lv_aload_n hx hb dX7_save_74 rfl (lv_at hl 1 rfl) ?_
            refine lv_aload_n hx hb dX7_save_75 rfl (lv_at hl 1 rfl) ?_
            refine va_get (D := G.1) (ci := 10) (v := .int hs) (C := RX7) (T := TX7) (N := 21) hx hb hts in_X7 hown hK hP 0 rfl rfl 5 (by decide) (hts _ k_fl_X7_350) (fun _ h9 => h9) rfl dX7_save_76 ?_
            refine lv_if_ne (tgt := 87) hx hb dX7_save_79 (by decide) (fun c_4 => ?_) (fun c_4 => ?_)
            · skip
              refine lv_iconst (v := 1) hx hb dX7_save_87 (by decide) ?_
              refine lv_goto (tgt := 92) hx hb dX7_save_88 (by decide) ?_
              refine va_put (D := G.1) (ci := 10) (v := .int 1) (ty := .boolean) (C := RX7) (T := TX7) (N := 21) hx hb hts in_X7 tyX7 tyX7_ok nmX7 hown hK hP hD hS 0 rfl rfl 5 (by decide) (hts _ k_fl_X7_350) (fun _ h9 => h9) rfl (by decide +kernel) rfl rfl (Nat.le_of_ble_eq_true rfl) dX7_save_92 (fun H locs hP hD hS => ?_)
              replace hP : va_P G.1 vwCl [(m0, .inr (10, [.int 0, .ref m1, .ref m2, .ref m3, .int 1, .int 1, .ref m6, .int len, .int ec, .int ep, .int pos, .int bg, .int bad, .ref m13, .ref m14, .int plc, .int sta, .ref m17, .ref m18, .ref m19, .int shm])), (m1, .inl (G.2.1.1, 670, .inl w)), (m3, .inl (G.2.1.1, 1340, .inl (it_X7_save_23 w saved p0 670)))] H := hP
              replace hD : va_D A [(m0, .inr (10, [.int 0, .ref m1, .ref m2, .ref m3, .int 1, .int 1, .ref m6, .int len, .int ec, .int ep, .int pos, .int bg, .int bad, .ref m13, .ref m14, .int plc, .int sta, .ref m17, .ref m18, .ref m19, .int shm])), (m1, .inl (G.2.1.1, 670, .inl w)), (m3, .inl (G.2.1.1, 1340, .inl (it_X7_save_23 w saved p0 670)))] := hD
              have ef : (f_X7_save hf hs w saved p0) = (0, 1, 1, (it_X7_save_23 w saved p0 670)) := ((if_neg c_1).trans ((if_neg c_3).trans (if_neg c_4)))
              exact gRetV F hr hlocks hK hP hD hS rfl (by rw [ef]) (Nat.le_of_ble_eq_true rfl) (Nat.le_of_ble_eq_true rfl) dX7_save_95
            · skip
              refine lv_iload_n hx hb dX7_save_82 rfl (lv_at hl 2 rfl) ?_
              refine lv_iconst (v := 1) hx hb dX7_save_83 (by decide) ?_
              refine lv_icmp_ne (tgt := 91) hx hb dX7_save_84 (by decide) (fun c_5 => ?_) (fun c_5 => ?_)
              · skip
                refine lv_iconst (v := 0) hx hb dX7_save_91 (by decide) ?_
                refine va_put (D := G.1) (ci := 10) (v := .int 0) (ty := .boolean) (C := RX7) (T := TX7) (N := 21) hx hb hts in_X7 tyX7 tyX7_ok nmX7 hown hK hP hD hS 0 rfl rfl 5 (by decide) (hts _ k_fl_X7_350) (fun _ h9 => h9) rfl (by decide +kernel) rfl rfl (Nat.le_of_ble_eq_true rfl) dX7_save_92 (fun H locs hP hD hS => ?_)
                replace hP : va_P G.1 vwCl [(m0, .inr (10, [.int 0, .ref m1, .ref m2, .ref m3, .int 1, .int 0, .ref m6, .int len, .int ec, .int ep, .int pos, .int bg, .int bad, .ref m13, .ref m14, .int plc, .int sta, .ref m17, .ref m18, .ref m19, .int shm])), (m1, .inl (G.2.1.1, 670, .inl w)), (m3, .inl (G.2.1.1, 1340, .inl (it_X7_save_23 w saved p0 670)))] H := hP
                replace hD : va_D A [(m0, .inr (10, [.int 0, .ref m1, .ref m2, .ref m3, .int 1, .int 0, .ref m6, .int len, .int ec, .int ep, .int pos, .int bg, .int bad, .ref m13, .ref m14, .int plc, .int sta, .ref m17, .ref m18, .ref m19, .int shm])), (m1, .inl (G.2.1.1, 670, .inl w)), (m3, .inl (G.2.1.1, 1340, .inl (it_X7_save_23 w saved p0 670)))] := hD
                have ef : (f_X7_save hf hs w saved p0) = (0, 1, 0, (it_X7_save_23 w saved p0 670)) := ((if_neg c_1).trans ((if_neg c_3).trans ((if_pos c_4).trans (if_neg c_5))))
                exact gRetV F hr hlocks hK hP hD hS rfl (by rw [ef]) (Nat.le_of_ble_eq_true rfl) (Nat.le_of_ble_eq_true rfl) dX7_save_95
              · skip
                refine lv_iconst (v := 1) hx hb dX7_save_87 (by decide) ?_
                refine lv_goto (tgt := 92) hx hb dX7_save_88 (by decide) ?_
                refine va_put (D := G.1) (ci := 10) (v := .int 1) (ty := .boolean) (C := RX7) (T := TX7) (N := 21) hx hb hts in_X7 tyX7 tyX7_ok nmX7 hown hK hP hD hS 0 rfl rfl 5 (by decide) (hts _ k_fl_X7_350) (fun _ h9 => h9) rfl (by decide +kernel) rfl rfl (Nat.le_of_ble_eq_true rfl) dX7_save_92 (fun H locs hP hD hS => ?_)
                replace hP : va_P G.1 vwCl [(m0, .inr (10, [.int 0, .ref m1, .ref m2, .ref m3, .int 1, .int 1, .ref m6, .int len, .int ec, .int ep, .int pos, .int bg, .int bad, .ref m13, .ref m14, .int plc, .int sta, .ref m17, .ref m18, .ref m19, .int shm])), (m1, .inl (G.2.1.1, 670, .inl w)), (m3, .inl (G.2.1.1, 1340, .inl (it_X7_save_23 w saved p0 670)))] H := hP
                replace hD : va_D A [(m0, .inr (10, [.int 0, .ref m1, .ref m2, .ref m3, .int 1, .int 1, .ref m6, .int len, .int ec, .int ep, .int pos, .int bg, .int bad, .ref m13, .ref m14, .int plc, .int sta, .ref m17, .ref m18, .ref m19, .int shm])), (m1, .inl (G.2.1.1, 670, .inl w)), (m3, .inl (G.2.1.1, 1340, .inl (it_X7_save_23 w saved p0 670)))] := hD
                have ef : (f_X7_save hf hs w saved p0) = (0, 1, 1, (it_X7_save_23 w saved p0 670)) := ((if_neg c_1).trans ((if_neg c_3).trans ((if_pos c_4).trans (if_pos c_5))))
                exact gRetV F hr hlocks hK hP hD hS rfl (by rw [ef]) (Nat.le_of_ble_eq_true rfl) (Nat.le_of_ble_eq_true rfl) dX7_save_95
          · skip
            refine lv_iload_n hx hb dX7_save_62 rfl (lv_at hl 2 rfl) ?_
            refine lv_if_ne (tgt := 70) hx hb dX7_save_63 (by decide) (fun c_6 => ?_) (fun c_6 => ?_)
            · skip
              refine lv_iconst (v := 0) hx hb dX7_save_70 (by decide) ?_
              refine va_put (D := G.1) (ci := 10) (v := .int 0) (ty := .boolean) (C := RX7) (T := TX7) (N := 21) hx hb hts in_X7 tyX7 tyX7_ok nmX7 hown hK hP hD hS 0 rfl rfl 4 (by decide) (hts _ k_fl_X7_347) (fun _ h9 => h9) rfl (by decide +kernel) rfl rfl (Nat.le_of_ble_eq_true rfl) dX7_save_71 (fun H locs hP hD hS => ?_)
              replace hP : va_P G.1 vwCl [(m0, .inr (10, [.int 0, .ref m1, .ref m2, .ref m3, .int 0, .int hs, .ref m6, .int len, .int ec, .int ep, .int pos, .int bg, .int bad, .ref m13, .ref m14, .int plc, .int sta, .ref m17, .ref m18, .ref m19, .int shm])), (m1, .inl (G.2.1.1, 670, .inl w)), (m3, .inl (G.2.1.1, 1340, .inl (it_X7_save_23 w saved p0 670)))] H := hP
              replace hD : va_D A [(m0, .inr (10, [.int 0, .ref m1, .ref m2, .ref m3, .int 0, .int hs, .ref m6, .int len, .int ec, .int ep, .int pos, .int bg, .int bad, .ref m13, .ref m14, .int plc, .int sta, .ref m17, .ref m18, .ref m19, .int shm])), (m1, .inl (G.2.1.1, 670, .inl w)), (m3, .inl (G.2.1.1, 1340, .inl (it_X7_save_23 w saved p0 670)))] := hD
              refine lv_aload_n hx hb dX7_save_74 rfl (lv_at hl 1 rfl) ?_
              refine lv_aload_n hx hb dX7_save_75 rfl (lv_at hl 1 rfl) ?_
              refine va_get (D := G.1) (ci := 10) (v := .int hs) (C := RX7) (T := TX7) (N := 21) hx hb hts in_X7 hown hK hP 0 rfl rfl 5 (by decide) (hts _ k_fl_X7_350) (fun _ h9 => h9) rfl dX7_save_76 ?_
              refine lv_if_ne (tgt := 87) hx hb dX7_save_79 (by decide) (fun c_7 => ?_) (fun c_7 => ?_)
              · skip
                refine lv_iconst (v := 1) hx hb dX7_save_87 (by decide) ?_
                refine lv_goto (tgt := 92) hx hb dX7_save_88 (by decide) ?_
                refine va_put (D := G.1) (ci := 10) (v := .int 1) (ty := .boolean) (C := RX7) (T := TX7) (N := 21) hx hb hts in_X7 tyX7 tyX7_ok nmX7 hown hK hP hD hS 0 rfl rfl 5 (by decide) (hts _ k_fl_X7_350) (fun _ h9 => h9) rfl (by decide +kernel) rfl rfl (Nat.le_of_ble_eq_true rfl) dX7_save_92 (fun H locs hP hD hS => ?_)
                replace hP : va_P G.1 vwCl [(m0, .inr (10, [.int 0, .ref m1, .ref m2, .ref m3, .int 0, .int 1, .ref m6, .int len, .int ec, .int ep, .int pos, .int bg, .int bad, .ref m13, .ref m14, .int plc, .int sta, .ref m17, .ref m18, .ref m19, .int shm])), (m1, .inl (G.2.1.1, 670, .inl w)), (m3, .inl (G.2.1.1, 1340, .inl (it_X7_save_23 w saved p0 670)))] H := hP
                replace hD : va_D A [(m0, .inr (10, [.int 0, .ref m1, .ref m2, .ref m3, .int 0, .int 1, .ref m6, .int len, .int ec, .int ep, .int pos, .int bg, .int bad, .ref m13, .ref m14, .int plc, .int sta, .ref m17, .ref m18, .ref m19, .int shm])), (m1, .inl (G.2.1.1, 670, .inl w)), (m3, .inl (G.2.1.1, 1340, .inl (it_X7_save_23 w saved p0 670)))] := hD
                have ef : (f_X7_save hf hs w saved p0) = (0, 0, 1, (it_X7_save_23 w saved p0 670)) := ((if_neg c_1).trans ((if_pos c_3).trans ((if_neg c_6).trans (if_neg c_7))))
                exact gRetV F hr hlocks hK hP hD hS rfl (by rw [ef]) (Nat.le_of_ble_eq_true rfl) (Nat.le_of_ble_eq_true rfl) dX7_save_95
              · skip
                refine lv_iload_n hx hb dX7_save_82 rfl (lv_at hl 2 rfl) ?_
                refine lv_iconst (v := 1) hx hb dX7_save_83 (by decide) ?_
                refine lv_icmp_ne (tgt := 91) hx hb dX7_save_84 (by decide) (fun c_8 => ?_) (fun c_8 => ?_)
                · skip
                  refine lv_iconst (v := 0) hx hb dX7_save_91 (by decide) ?_
                  refine va_put (D := G.1) (ci := 10) (v := .int 0) (ty := .boolean) (C := RX7) (T := TX7) (N := 21) hx hb hts in_X7 tyX7 tyX7_ok nmX7 hown hK hP hD hS 0 rfl rfl 5 (by decide) (hts _ k_fl_X7_350) (fun _ h9 => h9) rfl (by decide +kernel) rfl rfl (Nat.le_of_ble_eq_true rfl) dX7_save_92 (fun H locs hP hD hS => ?_)
                  replace hP : va_P G.1 vwCl [(m0, .inr (10, [.int 0, .ref m1, .ref m2, .ref m3, .int 0, .int 0, .ref m6, .int len, .int ec, .int ep, .int pos, .int bg, .int bad, .ref m13, .ref m14, .int plc, .int sta, .ref m17, .ref m18, .ref m19, .int shm])), (m1, .inl (G.2.1.1, 670, .inl w)), (m3, .inl (G.2.1.1, 1340, .inl (it_X7_save_23 w saved p0 670)))] H := hP
                  replace hD : va_D A [(m0, .inr (10, [.int 0, .ref m1, .ref m2, .ref m3, .int 0, .int 0, .ref m6, .int len, .int ec, .int ep, .int pos, .int bg, .int bad, .ref m13, .ref m14, .int plc, .int sta, .ref m17, .ref m18, .ref m19, .int shm])), (m1, .inl (G.2.1.1, 670, .inl w)), (m3, .inl (G.2.1.1, 1340, .inl (it_X7_save_23 w saved p0 670)))] := hD
                  have ef : (f_X7_save hf hs w saved p0) = (0, 0, 0, (it_X7_save_23 w saved p0 670)) := ((if_neg c_1).trans ((if_pos c_3).trans ((if_neg c_6).trans ((if_pos c_7).trans (if_neg c_8)))))
                  exact gRetV F hr hlocks hK hP hD hS rfl (by rw [ef]) (Nat.le_of_ble_eq_true rfl) (Nat.le_of_ble_eq_true rfl) dX7_save_95
                · skip
                  refine lv_iconst (v := 1) hx hb dX7_save_87 (by decide) ?_
                  refine lv_goto (tgt := 92) hx hb dX7_save_88 (by decide) ?_
                  refine va_put (D := G.1) (ci := 10) (v := .int 1) (ty := .boolean) (C := RX7) (T := TX7) (N := 21) hx hb hts in_X7 tyX7 tyX7_ok nmX7 hown hK hP hD hS 0 rfl rfl 5 (by decide) (hts _ k_fl_X7_350) (fun _ h9 => h9) rfl (by decide +kernel) rfl rfl (Nat.le_of_ble_eq_true rfl) dX7_save_92 (fun H locs hP hD hS => ?_)
                  replace hP : va_P G.1 vwCl [(m0, .inr (10, [.int 0, .ref m1, .ref m2, .ref m3, .int 0, .int 1, .ref m6, .int len, .int ec, .int ep, .int pos, .int bg, .int bad, .ref m13, .ref m14, .int plc, .int sta, .ref m17, .ref m18, .ref m19, .int shm])), (m1, .inl (G.2.1.1, 670, .inl w)), (m3, .inl (G.2.1.1, 1340, .inl (it_X7_save_23 w saved p0 670)))] H := hP
                  replace hD : va_D A [(m0, .inr (10, [.int 0, .ref m1, .ref m2, .ref m3, .int 0, .int 1, .ref m6, .int len, .int ec, .int ep, .int pos, .int bg, .int bad, .ref m13, .ref m14, .int plc, .int sta, .ref m17, .ref m18, .ref m19, .int shm])), (m1, .inl (G.2.1.1, 670, .inl w)), (m3, .inl (G.2.1.1, 1340, .inl (it_X7_save_23 w saved p0 670)))] := hD
                  have ef : (f_X7_save hf hs w saved p0) = (0, 0, 1, (it_X7_save_23 w saved p0 670)) := ((if_neg c_1).trans ((if_pos c_3).trans ((if_neg c_6).trans ((if_pos c_7).trans (if_pos c_8)))))
                  exact gRetV F hr hlocks hK hP hD hS rfl (by rw [ef]) (Nat.le_of_ble_eq_true rfl) (Nat.le_of_ble_eq_true rfl) dX7_save_95
            · skip
              refine lv_iconst (v := 1) hx hb dX7_save_66 (by decide) ?_
              refine lv_goto (tgt := 71) hx hb dX7_save_67 (by decide) ?_
              refine va_put (D := G.1) (ci := 10) (v := .int 1) (ty := .boolean) (C := RX7) (T := TX7) (N := 21) hx hb hts in_X7 tyX7 tyX7_ok nmX7 hown hK hP hD hS 0 rfl rfl 4 (by decide) (hts _ k_fl_X7_347) (fun _ h9 => h9) rfl (by decide +kernel) rfl rfl (Nat.le_of_ble_eq_true rfl) dX7_save_71 (fun H locs hP hD hS => ?_)
              replace hP : va_P G.1 vwCl [(m0, .inr (10, [.int 0, .ref m1, .ref m2, .ref m3, .int 1, .int hs, .ref m6, .int len, .int ec, .int ep, .int pos, .int bg, .int bad, .ref m13, .ref m14, .int plc, .int sta, .ref m17, .ref m18, .ref m19, .int shm])), (m1, .inl (G.2.1.1, 670, .inl w)), (m3, .inl (G.2.1.1, 1340, .inl (it_X7_save_23 w saved p0 670)))] H := hP
              replace hD : va_D A [(m0, .inr (10, [.int 0, .ref m1, .ref m2, .ref m3, .int 1, .int hs, .ref m6, .int len, .int ec, .int ep, .int pos, .int bg, .int bad, .ref m13, .ref m14, .int plc, .int sta, .ref m17, .ref m18, .ref m19, .int shm])), (m1, .inl (G.2.1.1, 670, .inl w)), (m3, .inl (G.2.1.1, 1340, .inl (it_X7_save_23 w saved p0 670)))] := hD
              refine lv_aload_n hx hb dX7_save_74 rfl (lv_at hl 1 rfl) ?_
              refine lv_aload_n hx hb dX7_save_75 rfl (lv_at hl 1 rfl) ?_
              refine va_get (D := G.1) (ci := 10) (v := .int hs) (C := RX7) (T := TX7) (N := 21) hx hb hts in_X7 hown hK hP 0 rfl rfl 5 (by decide) (hts _ k_fl_X7_350) (fun _ h9 => h9) rfl dX7_save_76 ?_
              refine lv_if_ne (tgt := 87) hx hb dX7_save_79 (by decide) (fun c_9 => ?_) (fun c_9 => ?_)
              · skip
                refine lv_iconst (v := 1) hx hb dX7_save_87 (by decide) ?_
                refine lv_goto (tgt := 92) hx hb dX7_save_88 (by decide) ?_
                refine va_put (D := G.1) (ci := 10) (v := .int 1) (ty := .boolean) (C := RX7) (T := TX7) (N := 21) hx hb hts in_X7 tyX7 tyX7_ok nmX7 hown hK hP hD hS 0 rfl rfl 5 (by decide) (hts _ k_fl_X7_350) (fun _ h9 => h9) rfl (by decide +kernel) rfl rfl (Nat.le_of_ble_eq_true rfl) dX7_save_92 (fun H locs hP hD hS => ?_)
                replace hP : va_P G.1 vwCl [(m0, .inr (10, [.int 0, .ref m1, .ref m2, .ref m3, .int 1, .int 1, .ref m6, .int len, .int ec, .int ep, .int pos, .int bg, .int bad, .ref m13, .ref m14, .int plc, .int sta, .ref m17, .ref m18, .ref m19, .int shm])), (m1, .inl (G.2.1.1, 670, .inl w)), (m3, .inl (G.2.1.1, 1340, .inl (it_X7_save_23 w saved p0 670)))] H := hP
                replace hD : va_D A [(m0, .inr (10, [.int 0, .ref m1, .ref m2, .ref m3, .int 1, .int 1, .ref m6, .int len, .int ec, .int ep, .int pos, .int bg, .int bad, .ref m13, .ref m14, .int plc, .int sta, .ref m17, .ref m18, .ref m19, .int shm])), (m1, .inl (G.2.1.1, 670, .inl w)), (m3, .inl (G.2.1.1, 1340, .inl (it_X7_save_23 w saved p0 670)))] := hD
                have ef : (f_X7_save hf hs w saved p0) = (0, 1, 1, (it_X7_save_23 w saved p0 670)) := ((if_neg c_1).trans ((if_pos c_3).trans ((if_pos c_6).trans (if_neg c_9))))
                exact gRetV F hr hlocks hK hP hD hS rfl (by rw [ef]) (Nat.le_of_ble_eq_true rfl) (Nat.le_of_ble_eq_true rfl) dX7_save_95
              · skip
                refine lv_iload_n hx hb dX7_save_82 rfl (lv_at hl 2 rfl) ?_
                refine lv_iconst (v := 1) hx hb dX7_save_83 (by decide) ?_
                refine lv_icmp_ne (tgt := 91) hx hb dX7_save_84 (by decide) (fun c_10 => ?_) (fun c_10 => ?_)
                · skip
                  refine lv_iconst (v := 0) hx hb dX7_save_91 (by decide) ?_
                  refine va_put (D := G.1) (ci := 10) (v := .int 0) (ty := .boolean) (C := RX7) (T := TX7) (N := 21) hx hb hts in_X7 tyX7 tyX7_ok nmX7 hown hK hP hD hS 0 rfl rfl 5 (by decide) (hts _ k_fl_X7_350) (fun _ h9 => h9) rfl (by decide +kernel) rfl rfl (Nat.le_of_ble_eq_true rfl) dX7_save_92 (fun H locs hP hD hS => ?_)
                  replace hP : va_P G.1 vwCl [(m0, .inr (10, [.int 0, .ref m1, .ref m2, .ref m3, .int 1, .int 0, .ref m6, .int len, .int ec, .int ep, .int pos, .int bg, .int bad, .ref m13, .ref m14, .int plc, .int sta, .ref m17, .ref m18, .ref m19, .int shm])), (m1, .inl (G.2.1.1, 670, .inl w)), (m3, .inl (G.2.1.1, 1340, .inl (it_X7_save_23 w saved p0 670)))] H := hP
                  replace hD : va_D A [(m0, .inr (10, [.int 0, .ref m1, .ref m2, .ref m3, .int 1, .int 0, .ref m6, .int len, .int ec, .int ep, .int pos, .int bg, .int bad, .ref m13, .ref m14, .int plc, .int sta, .ref m17, .ref m18, .ref m19, .int shm])), (m1, .inl (G.2.1.1, 670, .inl w)), (m3, .inl (G.2.1.1, 1340, .inl (it_X7_save_23 w saved p0 670)))] := hD
                  have ef : (f_X7_save hf hs w saved p0) = (0, 1, 0, (it_X7_save_23 w saved p0 670)) := ((if_neg c_1).trans ((if_pos c_3).trans ((if_pos c_6).trans (if_pos c_9))))
                  exact gRetV F hr hlocks hK hP hD hS rfl (by rw [ef]) (Nat.le_of_ble_eq_true rfl) (Nat.le_of_ble_eq_true rfl) dX7_save_95
                · exact absurd c_10 (by rw [c_6]; decide)
        · exact absurd (Int32.le_refl _) c_2
      | succ fu ih =>
        intro k hk H locs hP hD hS ls hl
        have hlt_k : k < 670 := by omega
        refine lv_iload_n hx hb dX7_save_23 rfl (lv_at hl 0 rfl) ?_
        refine lv_sipush (v := 670) hx hb dX7_save_24 (by decide) ?_
        refine lv_icmp_ge (tgt := 54) hx hb dX7_save_27 (by decide) (fun c_11 => ?_) (fun c_11 => ?_)
        · exact absurd c_11 (nI_ge hlt_k (by decide))
        · skip
          refine lv_aload_n hx hb dX7_save_30 rfl (lv_at hl 1 rfl) ?_
          refine va_get (D := G.1) (ci := 10) (v := .ref m3) (C := RX7) (T := TX7) (N := 21) hx hb hts in_X7 hown hK hP 0 rfl rfl 3 (by decide) (hts _ k_fl_X7_16) (fun _ h9 => h9) rfl dX7_save_31 ?_
          refine lv_sipush (v := 670) hx hb dX7_save_34 (by decide) ?_
          refine lv_iload_n hx hb dX7_save_37 rfl (lv_at hl 2 rfl) ?_
          refine lv_imul hx hb dX7_save_38 ?_
          refine lv_iload_n hx hb dX7_save_39 rfl (lv_at hl 0 rfl) ?_
          refine lv_iadd hx hb dX7_save_40 ?_
          refine lv_aload_n hx hb dX7_save_41 rfl (lv_at hl 1 rfl) ?_
          refine va_get (D := G.1) (ci := 10) (v := .ref m1) (C := RX7) (T := TX7) (N := 21) hx hb hts in_X7 hown hK hP 0 rfl rfl 1 (by decide) (hts _ k_fl_X7_7) (fun _ h9 => h9) rfl dX7_save_42 ?_
          refine lv_iload_n hx hb dX7_save_45 rfl (lv_at hl 0 rfl) ?_
          refine gIald (k := k) hx hb hK hP 1 0 rfl rfl (nI_clamp (by omega)) (vp_in_nI (Nat.lt_of_lt_of_le hlt_k (Nat.le_of_ble_eq_true rfl)) (by decide)) dX7_save_46 ?_
          refine va_iast hx hb hK hP hD hS 2 0 rfl rfl (by have qc_1 := in_ofI (a := 0) (b := 1) c_1 (by decide) (by decide); have z0 : (670 : Int32).toInt = 670 := (by decide); (try have z2 := gI_mul (x := 670) (y := p0) (by (try rw [z0]); (try rw [z1]); omega) (by (try rw [z0]); (try rw [z1]); omega)); (try rw [z0, z1] at z2); (try rw [z0] at z2); (try rw [z1] at z2); have z3 := nI_toInt (n := k) (by omega); (try have z4 := gI_add (x := (670 * p0)) (y := (nI k)) (by omega) (by omega)); (try rw [vp_in_iff]); omega) dX7_save_47 (fun H locs hP hD hS => ?_)
          replace hP : va_P G.1 vwCl [(m0, .inr (10, [.int 0, .ref m1, .ref m2, .ref m3, .int hf, .int hs, .ref m6, .int len, .int ec, .int ep, .int pos, .int bg, .int bad, .ref m13, .ref m14, .int plc, .int sta, .ref m17, .ref m18, .ref m19, .int shm])), (m1, .inl (G.2.1.1, 670, .inl w)), (m3, .inl (G.2.1.1, 1340, .inl (upd (it_X7_save_23 w saved p0 k) (Int32.toNatClampNeg ((670 * p0) + (nI k))) (w k))))] H := hP
          replace hD : va_D A [(m0, .inr (10, [.int 0, .ref m1, .ref m2, .ref m3, .int hf, .int hs, .ref m6, .int len, .int ec, .int ep, .int pos, .int bg, .int bad, .ref m13, .ref m14, .int plc, .int sta, .ref m17, .ref m18, .ref m19, .int shm])), (m1, .inl (G.2.1.1, 670, .inl w)), (m3, .inl (G.2.1.1, 1340, .inl (upd (it_X7_save_23 w saved p0 k) (Int32.toNatClampNeg ((670 * p0) + (nI k))) (w k))))] := hD
          refine lv_iinc (v := (nI (k + 1))) (lv' := [(2, .int (nI (k + 1))), (0, .ref m0), (1, .int p0)]) hx hb dX7_save_48 hl (k := 0) rfl (nI_1 k) (by decide) rfl (fun ls hl => ?_)
          refine lv_goto (tgt := 23) hx hb dX7_save_51 (by decide) ?_
          have ek : (it_X7_save_23 w saved p0 (k + 1)) = (upd (it_X7_save_23 w saved p0 k) (Int32.toNatClampNeg ((670 * p0) + (nI k))) (w k)) := rfl
          exact ih (k + 1) (by omega) _ _ (by rw [ek]; exact hP) (by rw [ek]; exact hD) hS ls (lv_sub hl [0, 1, 2] rfl)
    exact loop_23 670 0 (by omega) _ _ hP hD hS ls (lv_sub hl [0, 1, 2] rfl)
  · skip
    refine lv_aload_n hx hb dX7_save_15 rfl (lv_at hl 0 rfl) ?_
    refine lv_iconst (v := 1) hx hb dX7_save_16 (by decide) ?_
    refine va_put (D := G.1) (ci := 10) (v := .int 1) (ty := .int) (C := RX7) (T := TX7) (N := 21) hx hb hts in_X7 tyX7 tyX7_ok nmX7 hown hK hP hD hS 0 rfl rfl 0 (by decide) (hts _ k_fl_X7_76) (fun _ h9 => h9) rfl (by decide +kernel) rfl rfl (Nat.le_of_ble_eq_true rfl) dX7_save_17 (fun H locs hP hD hS => ?_)
    replace hP : va_P G.1 vwCl [(m0, .inr (10, [.int 1, .ref m1, .ref m2, .ref m3, .int hf, .int hs, .ref m6, .int len, .int ec, .int ep, .int pos, .int bg, .int bad, .ref m13, .ref m14, .int plc, .int sta, .ref m17, .ref m18, .ref m19, .int shm])), (m1, .inl (G.2.1.1, 670, .inl w)), (m3, .inl (G.2.1.1, 1340, .inl saved))] H := hP
    replace hD : va_D A [(m0, .inr (10, [.int 1, .ref m1, .ref m2, .ref m3, .int hf, .int hs, .ref m6, .int len, .int ec, .int ep, .int pos, .int bg, .int bad, .ref m13, .ref m14, .int plc, .int sta, .ref m17, .ref m18, .ref m19, .int shm])), (m1, .inl (G.2.1.1, 670, .inl w)), (m3, .inl (G.2.1.1, 1340, .inl saved))] := hD
    have ef : (f_X7_save hf hs w saved p0) = (1, hf, hs, saved) := (if_pos c_1)
    exact gRetV F hr hlocks hK hP hD hS rfl (by rw [ef]) (Nat.le_of_ble_eq_true rfl) (Nat.le_of_ble_eq_true rfl) dX7_save_20
theorem okV_X7_save : gOkV yX7_save cX7_save 3 none 1 := ⟨⟨k_im_X7_save, k_se_X7_save, k_in_X7, k_cd_X7_save⟩, by decide, by decide, by decide +kernel⟩
def wl_X7_restore (saved : Nat → Int32) (p0 : Int32) : Nat → Nat → (Nat → Int32) → Int32 × (Nat → Int32)
  | 0, _, z1 =>
    (0, z1)
  | n + 1, k, z1 =>
    wl_X7_restore saved p0 n (k + 1) (upd z1 k (saved (Int32.toNatClampNeg ((670 * p0) + (nI k)))))
def wl_X7_restore_e1 (w : Nat → Int32) : Nat → Nat → Int32 × (Nat → Int32)
  | 0, _ =>
    (2, w)
  | n + 1, k =>
    (2, w)
def wl_X7_restore_e2 (saved : Nat → Int32) (p0 : Int32) : Nat → Nat → (Nat → Int32) → Int32 × (Nat → Int32)
  | 0, _, z1 =>
    (0, z1)
  | n + 1, k, z1 =>
    wl_X7_restore_e2 saved p0 n (k + 1) (upd z1 k (saved (Int32.toNatClampNeg ((670 * p0) + (nI k)))))
def wl_X7_restore_e3 (w : Nat → Int32) : Nat → Nat → Int32 × (Nat → Int32)
  | 0, _ =>
    (2, w)
  | n + 1, k =>
    (2, w)
def wl_X7_restore_e4 (w : Nat → Int32) : Nat → Nat → Int32 × (Nat → Int32)
  | 0, _ =>
    (1, w)
  | n + 1, k =>
    (1, w)
def f_X7_restore (hf : Int32) (hs : Int32) (w : Nat → Int32) (saved : Nat → Int32) (p0 : Int32) : Int32 × (Nat → Int32) :=
  if (f_X7_in (Int32.toInt64 p0) 0 1) = 0 then
    (wl_X7_restore_e4 w 670 0)
  else
    if p0 = 0 then
      if hf = 0 then
        (wl_X7_restore_e3 w 670 0)
      else
        (wl_X7_restore_e2 saved p0 670 0 w)
    else
      if hs = 0 then
        (wl_X7_restore_e1 w 670 0)
      else
        (wl_X7_restore saved p0 670 0 w)
set_option maxRecDepth 100000 in
set_option maxHeartbeats 4000000 in
theorem c_X7_restore (l : Launch) (G : gG) (m0 : Nat) (m1 : Nat) (m2 : Nat) (m3 : Nat) (m6 : Nat) (m13 : Nat) (m14 : Nat) (m17 : Nat) (m18 : Nat) (m19 : Nat) (rz : Int32) (hf : Int32) (hs : Int32) (len : Int32) (ec : Int32) (ep : Int32) (pos : Int32) (bg : Int32) (bad : Int32) (plc : Int32) (sta : Int32) (shm : Int32) (w : Nat → Int32) (saved : Nat → Int32) (p0 : Int32) : gM l G yX7_restore cX7_restore 3 none { frames := 1, cells := 0, slots := 0, locals := 25 } [.ref m0, .int p0] [(m0, .inr (10, [.int rz, .ref m1, .ref m2, .ref m3, .int hf, .int hs, .ref m6, .int len, .int ec, .int ep, .int pos, .int bg, .int bad, .ref m13, .ref m14, .int plc, .int sta, .ref m17, .ref m18, .ref m19, .int shm])), (m1, .inl (G.2.1.1, 670, .inl w)), (m3, .inl (G.2.1.1, 1340, .inl saved))] none [(m0, .inr (10, [.int ((f_X7_restore hf hs w saved p0).1), .ref m1, .ref m2, .ref m3, .int hf, .int hs, .ref m6, .int len, .int ec, .int ep, .int pos, .int bg, .int bad, .ref m13, .ref m14, .int plc, .int sta, .ref m17, .ref m18, .ref m19, .int shm])), (m1, .inl (G.2.1.1, 670, .inl ((f_X7_restore hf hs w saved p0).2))), (m3, .inl (G.2.1.1, 1340, .inl saved))] 0 0 := by
  refine gBegin (by decide +kernel) (Nat.le_of_ble_eq_true rfl) (fun p e s m args below meth c A F hr hlocks hname hN hK hP hD hA hS ls hl => ?_)
  obtain ⟨hx, hb, hml, hown, hts⟩ := id F
  replace hP : va_P G.1 vwCl [(m0, .inr (10, [.int rz, .ref m1, .ref m2, .ref m3, .int hf, .int hs, .ref m6, .int len, .int ec, .int ep, .int pos, .int bg, .int bad, .ref m13, .ref m14, .int plc, .int sta, .ref m17, .ref m18, .ref m19, .int shm])), (m1, .inl (G.2.1.1, 670, .inl w)), (m3, .inl (G.2.1.1, 1340, .inl saved))] s.heap := hP
  replace hl : lv_has ls 3 [(0, .ref m0), (1, .int p0)] := hl
  refine lv_aload_n hx hb dX7_restore_0 rfl (lv_at hl 0 rfl) ?_
  refine lv_iconst (v := 0) hx hb dX7_restore_1 (by decide) ?_
  refine va_put (D := G.1) (ci := 10) (v := .int 0) (ty := .int) (C := RX7) (T := TX7) (N := 21) hx hb hts in_X7 tyX7 tyX7_ok nmX7 hown hK hP hD hS 0 rfl rfl 0 (by decide) (hts _ k_fl_X7_76) (fun _ h9 => h9) rfl (by decide +kernel) rfl rfl (Nat.le_of_ble_eq_true rfl) dX7_restore_2 (fun H locs hP hD hS => ?_)
  replace hP : va_P G.1 vwCl [(m0, .inr (10, [.int 0, .ref m1, .ref m2, .ref m3, .int hf, .int hs, .ref m6, .int len, .int ec, .int ep, .int pos, .int bg, .int bad, .ref m13, .ref m14, .int plc, .int sta, .ref m17, .ref m18, .ref m19, .int shm])), (m1, .inl (G.2.1.1, 670, .inl w)), (m3, .inl (G.2.1.1, 1340, .inl saved))] H := hP
  replace hD : va_D A [(m0, .inr (10, [.int 0, .ref m1, .ref m2, .ref m3, .int hf, .int hs, .ref m6, .int len, .int ec, .int ep, .int pos, .int bg, .int bad, .ref m13, .ref m14, .int plc, .int sta, .ref m17, .ref m18, .ref m19, .int shm])), (m1, .inl (G.2.1.1, 670, .inl w)), (m3, .inl (G.2.1.1, 1340, .inl saved))] := hD
  refine lv_iload_n hx hb dX7_restore_5 rfl (lv_at hl 1 rfl) ?_
  refine lv_i2l (v := (Int32.toInt64 p0)) hx hb dX7_restore_6 rfl ?_
  refine lv_lconst (v := 0) hx hb dX7_restore_7 (by decide) ?_
  refine lv_lconst (v := 1) hx hb dX7_restore_8 (by decide) ?_
  refine gS (As := [.long (Int32.toInt64 p0), .long 0, .long 1]) (rest := []) (wr := [(m0, .inr (10, [.int 0, .ref m1, .ref m2, .ref m3, .int hf, .int hs, .ref m6, .int len, .int ec, .int ep, .int pos, .int bg, .int bad, .ref m13, .ref m14, .int plc, .int sta, .ref m17, .ref m18, .ref m19, .int shm])), (m1, .inl (G.2.1.1, 670, .inl w)), (m3, .inl (G.2.1.1, 1340, .inl saved))]) (ws' := [(m0, .inr (10, [.int 0, .ref m1, .ref m2, .ref m3, .int hf, .int hs, .ref m6, .int len, .int ec, .int ep, .int pos, .int bg, .int bad, .ref m13, .ref m14, .int plc, .int sta, .ref m17, .ref m18, .ref m19, .int shm])), (m1, .inl (G.2.1.1, 670, .inl w)), (m3, .inl (G.2.1.1, 1340, .inl saved))]) F (c_X7_in l G (Int32.toInt64 p0) 0 1) okS_X7_in k_ml_X7_81 rfl rfl ⟨Nat.le_of_ble_eq_true rfl, Nat.le_of_ble_eq_true rfl⟩ hN hK hP hD hS hA [] [0, 1, 2] [0, 1, 2] (by decide) rfl rfl (by decide) (by decide) (by decide) rfl rfl rfl hl.1 (Nat.le_of_ble_eq_true rfl) dX7_restore_9 ⟨Nat.le_refl _, Nat.le_refl _⟩ (fun H locs hP hD hS => ?_)
  refine lv_if_ne (tgt := 23) hx hb dX7_restore_12 (by decide) (fun c_1 => ?_) (fun c_1 => ?_)
  · skip
    refine lv_iload_n hx hb dX7_restore_23 rfl (lv_at hl 1 rfl) ?_
    refine lv_if_ne (tgt := 37) hx hb dX7_restore_24 (by decide) (fun c_2 => ?_) (fun c_2 => ?_)
    · skip
      refine lv_aload_n hx hb dX7_restore_37 rfl (lv_at hl 0 rfl) ?_
      refine va_get (D := G.1) (ci := 10) (v := .int hs) (C := RX7) (T := TX7) (N := 21) hx hb hts in_X7 hown hK hP 0 rfl rfl 5 (by decide) (hts _ k_fl_X7_350) (fun _ h9 => h9) rfl dX7_restore_38 ?_
      refine lv_if_ne (tgt := 49) hx hb dX7_restore_41 (by decide) (fun c_3 => ?_) (fun c_3 => ?_)
      · skip
        refine lv_iconst (v := 0) hx hb dX7_restore_49 (by decide) ?_
        refine lv_istore_n (lv' := [(2, .int 0), (0, .ref m0), (1, .int p0)]) hx hb dX7_restore_50 rfl hl (by decide) rfl (fun ls hl => ?_)
        have loop_51 : ∀ (fu k : Nat) (z1 : Nat → Int32), k + fu = 670 → (f_X7_restore hf hs w saved p0) = wl_X7_restore saved p0 fu k z1 → ∀ (H : Heap) (locs : List Loc), va_P G.1 vwCl [(m0, .inr (10, [.int 0, .ref m1, .ref m2, .ref m3, .int hf, .int hs, .ref m6, .int len, .int ec, .int ep, .int pos, .int bg, .int bad, .ref m13, .ref m14, .int plc, .int sta, .ref m17, .ref m18, .ref m19, .int shm])), (m1, .inl (G.2.1.1, 670, .inl z1)), (m3, .inl (G.2.1.1, 1340, .inl saved))] H → va_D A [(m0, .inr (10, [.int 0, .ref m1, .ref m2, .ref m3, .int hf, .int hs, .ref m6, .int len, .int ec, .int ep, .int pos, .int bg, .int bad, .ref m13, .ref m14, .int plc, .int sta, .ref m17, .ref m18, .ref m19, .int shm])), (m1, .inl (G.2.1.1, 670, .inl z1)), (m3, .inl (G.2.1.1, 1340, .inl saved))] → va_S A s.heap H locs → ∀ ls : Array Slot, lv_has ls 3 [(2, .int (nI k)), (0, .ref m0), (1, .int p0)] → W p l e { frames := 1, cells := 0, slots := 0, locals := 25 } s m args below meth c H locs 0 0 (MQ below (gQ G none [(m0, .inr (10, [.int ((f_X7_restore hf hs w saved p0).1), .ref m1, .ref m2, .ref m3, .int hf, .int hs, .ref m6, .int len, .int ec, .int ep, .int pos, .int bg, .int bad, .ref m13, .ref m14, .int plc, .int sta, .ref m17, .ref m18, .ref m19, .int shm])), (m1, .inl (G.2.1.1, 670, .inl ((f_X7_restore hf hs w saved p0).2))), (m3, .inl (G.2.1.1, 1340, .inl saved))] A) args s 0 0 A) (F0 m 51 ls []) := by
          intro fu
          induction fu with
          | zero =>
            intro k z1 hk hO H locs hP hD hS ls hl
            have ek : 670 = k := by omega
            subst ek
            refine lv_iload_n hx hb dX7_restore_51 rfl (lv_at hl 0 rfl) ?_
            refine lv_sipush (v := 670) hx hb dX7_restore_52 (by decide) ?_
            refine lv_icmp_ge (tgt := 89) hx hb dX7_restore_55 (by decide) (fun c_4 => ?_) (fun c_4 => ?_)
            · skip
              have ef : (f_X7_restore hf hs w saved p0) = (0, z1) := hO
              exact gRetV F hr hlocks hK hP hD hS rfl (by rw [ef]) (Nat.le_of_ble_eq_true rfl) (Nat.le_of_ble_eq_true rfl) dX7_restore_89
            · exact absurd (Int32.le_refl _) c_4
          | succ fu ih =>
            intro k z1 hk hO H locs hP hD hS ls hl
            have hlt_k : k < 670 := by omega
            refine lv_iload_n hx hb dX7_restore_51 rfl (lv_at hl 0 rfl) ?_
            refine lv_sipush (v := 670) hx hb dX7_restore_52 (by decide) ?_
            refine lv_icmp_ge (tgt := 89) hx hb dX7_restore_55 (by decide) (fun c_5 => ?_) (fun c_5 => ?_)
            · exact absurd c_5 (nI_ge hlt_k (by decide))
            · skip
              refine lv_aload_n hx hb dX7_restore_58 rfl (lv_at hl 1 rfl) ?_
              refine va_get (D := G.1) (ci := 10) (v := .int 0) (C := RX7) (T := TX7) (N := 21) hx hb hts in_X7 hown hK hP 0 rfl rfl 0 (by decide) (hts _ k_fl_X7_76) (fun _ h9 => h9) rfl dX7_restore_59 ?_
              refine lv_if_ne (tgt := 89) hx hb dX7_restore_62 (by decide) (fun c_6 => ?_) (fun c_6 => ?_)
              · exact absurd c_6 (by decide)
              · skip
                refine lv_aload_n hx hb dX7_restore_65 rfl (lv_at hl 1 rfl) ?_
                refine va_get (D := G.1) (ci := 10) (v := .ref m1) (C := RX7) (T := TX7) (N := 21) hx hb hts in_X7 hown hK hP 0 rfl rfl 1 (by decide) (hts _ k_fl_X7_7) (fun _ h9 => h9) rfl dX7_restore_66 ?_
                refine lv_iload_n hx hb dX7_restore_69 rfl (lv_at hl 0 rfl) ?_
                refine lv_aload_n hx hb dX7_restore_70 rfl (lv_at hl 1 rfl) ?_
                refine va_get (D := G.1) (ci := 10) (v := .ref m3) (C := RX7) (T := TX7) (N := 21) hx hb hts in_X7 hown hK hP 0 rfl rfl 3 (by decide) (hts _ k_fl_X7_16) (fun _ h9 => h9) rfl dX7_restore_71 ?_
                refine lv_sipush (v := 670) hx hb dX7_restore_74 (by decide) ?_
                refine lv_iload_n hx hb dX7_restore_77 rfl (lv_at hl 2 rfl) ?_
                refine lv_imul hx hb dX7_restore_78 ?_
                refine lv_iload_n hx hb dX7_restore_79 rfl (lv_at hl 0 rfl) ?_
                refine lv_iadd hx hb dX7_restore_80 ?_
                refine va_iald hx hb hK hP 2 0 rfl rfl (by have qc_1 := in_ofI (a := 0) (b := 1) c_1 (by decide) (by decide); (try have hp1 : p0.toInt = 0 := by rw [c_2]; decide); have z0 : (670 : Int32).toInt = 670 := (by decide); (try have z2 := gI_mul (x := 670) (y := p0) (by (try rw [z0]); (try rw [z1]); omega) (by (try rw [z0]); (try rw [z1]); omega)); (try rw [z0, z1] at z2); (try rw [z0] at z2); (try rw [z1] at z2); have z3 := nI_toInt (n := k) (by omega); (try have z4 := gI_add (x := (670 * p0)) (y := (nI k)) (by omega) (by omega)); (try rw [vp_in_iff]); omega) dX7_restore_81 ?_
                refine gIast (k := k) hx hb hK hP hD hS 1 0 rfl rfl (nI_clamp (by omega)) (vp_in_nI (Nat.lt_of_lt_of_le hlt_k (Nat.le_of_ble_eq_true rfl)) (by decide)) dX7_restore_82 (fun H locs hP hD hS => ?_)
                replace hP : va_P G.1 vwCl [(m0, .inr (10, [.int 0, .ref m1, .ref m2, .ref m3, .int hf, .int hs, .ref m6, .int len, .int ec, .int ep, .int pos, .int bg, .int bad, .ref m13, .ref m14, .int plc, .int sta, .ref m17, .ref m18, .ref m19, .int shm])), (m1, .inl (G.2.1.1, 670, .inl (upd z1 k (saved (Int32.toNatClampNeg ((670 * p0) + (nI k))))))), (m3, .inl (G.2.1.1, 1340, .inl saved))] H := hP
                replace hD : va_D A [(m0, .inr (10, [.int 0, .ref m1, .ref m2, .ref m3, .int hf, .int hs, .ref m6, .int len, .int ec, .int ep, .int pos, .int bg, .int bad, .ref m13, .ref m14, .int plc, .int sta, .ref m17, .ref m18, .ref m19, .int shm])), (m1, .inl (G.2.1.1, 670, .inl (upd z1 k (saved (Int32.toNatClampNeg ((670 * p0) + (nI k))))))), (m3, .inl (G.2.1.1, 1340, .inl saved))] := hD
                refine lv_iinc (v := (nI (k + 1))) (lv' := [(2, .int (nI (k + 1))), (0, .ref m0), (1, .int p0)]) hx hb dX7_restore_83 hl (k := 0) rfl (nI_1 k) (by decide) rfl (fun ls hl => ?_)
                refine lv_goto (tgt := 51) hx hb dX7_restore_86 (by decide) ?_
                exact ih (k + 1) (upd z1 k (saved (Int32.toNatClampNeg ((670 * p0) + (nI k))))) (by omega) hO _ _ hP hD hS ls (lv_sub hl [0, 1, 2] rfl)
        exact loop_51 670 0 w (by omega) (((if_neg c_1).trans ((if_neg c_2).trans (if_neg c_3)))) _ _ hP hD hS ls (lv_sub hl [0, 1, 2] rfl)
      · skip
        refine lv_aload_n hx hb dX7_restore_44 rfl (lv_at hl 0 rfl) ?_
        refine lv_iconst (v := 2) hx hb dX7_restore_45 (by decide) ?_
        refine va_put (D := G.1) (ci := 10) (v := .int 2) (ty := .int) (C := RX7) (T := TX7) (N := 21) hx hb hts in_X7 tyX7 tyX7_ok nmX7 hown hK hP hD hS 0 rfl rfl 0 (by decide) (hts _ k_fl_X7_76) (fun _ h9 => h9) rfl (by decide +kernel) rfl rfl (Nat.le_of_ble_eq_true rfl) dX7_restore_46 (fun H locs hP hD hS => ?_)
        replace hP : va_P G.1 vwCl [(m0, .inr (10, [.int 2, .ref m1, .ref m2, .ref m3, .int hf, .int hs, .ref m6, .int len, .int ec, .int ep, .int pos, .int bg, .int bad, .ref m13, .ref m14, .int plc, .int sta, .ref m17, .ref m18, .ref m19, .int shm])), (m1, .inl (G.2.1.1, 670, .inl w)), (m3, .inl (G.2.1.1, 1340, .inl saved))] H := hP
        replace hD : va_D A [(m0, .inr (10, [.int 2, .ref m1, .ref m2, .ref m3, .int hf, .int hs, .ref m6, .int len, .int ec, .int ep, .int pos, .int bg, .int bad, .ref m13, .ref m14, .int plc, .int sta, .ref m17, .ref m18, .ref m19, .int shm])), (m1, .inl (G.2.1.1, 670, .inl w)), (m3, .inl (G.2.1.1, 1340, .inl saved))] := hD
        refine lv_iconst (v := 0) hx hb dX7_restore_49 (by decide) ?_
        refine lv_istore_n (lv' := [(2, .int 0), (0, .ref m0), (1, .int p0)]) hx hb dX7_restore_50 rfl hl (by decide) rfl (fun ls hl => ?_)
        have loop_51 : ∀ (fu k : Nat), k + fu = 670 → (f_X7_restore hf hs w saved p0) = wl_X7_restore_e1 w fu k → ∀ (H : Heap) (locs : List Loc), va_P G.1 vwCl [(m0, .inr (10, [.int 2, .ref m1, .ref m2, .ref m3, .int hf, .int hs, .ref m6, .int len, .int ec, .int ep, .int pos, .int bg, .int bad, .ref m13, .ref m14, .int plc, .int sta, .ref m17, .ref m18, .ref m19, .int shm])), (m1, .inl (G.2.1.1, 670, .inl w)), (m3, .inl (G.2.1.1, 1340, .inl saved))] H → va_D A [(m0, .inr (10, [.int 2, .ref m1, .ref m2, .ref m3, .int hf, .int hs, .ref m6, .int len, .int ec, .int ep, .int pos, .int bg, .int bad, .ref m13, .ref m14, .int plc, .int sta, .ref m17, .ref m18, .ref m19, .int shm])), (m1, .inl (G.2.1.1, 670, .inl w)), (m3, .inl (G.2.1.1, 1340, .inl saved))] → va_S A s.heap H locs → ∀ ls : Array Slot, lv_has ls 3 [(2, .int (nI k)), (0, .ref m0), (1, .int p0)] → W p l e { frames := 1, cells := 0, slots := 0, locals := 25 } s m args below meth c H locs 0 0 (MQ below (gQ G none [(m0, .inr (10, [.int ((f_X7_restore hf hs w saved p0).1), .ref m1, .ref m2, .ref m3, .int hf, .int hs, .ref m6, .int len, .int ec, .int ep, .int pos, .int bg, .int bad, .ref m13, .ref m14, .int plc, .int sta, .ref m17, .ref m18, .ref m19, .int shm])), (m1, .inl (G.2.1.1, 670, .inl ((f_X7_restore hf hs w saved p0).2))), (m3, .inl (G.2.1.1, 1340, .inl saved))] A) args s 0 0 A) (F0 m 51 ls []) := by
          intro fu
          induction fu with
          | zero =>
            intro k hk hO H locs hP hD hS ls hl
            have ek : 670 = k := by omega
            subst ek
            refine lv_iload_n hx hb dX7_restore_51 rfl (lv_at hl 0 rfl) ?_
            refine lv_sipush (v := 670) hx hb dX7_restore_52 (by decide) ?_
            refine lv_icmp_ge (tgt := 89) hx hb dX7_restore_55 (by decide) (fun c_7 => ?_) (fun c_7 => ?_)
            · skip
              have ef : (f_X7_restore hf hs w saved p0) = (2, w) := hO
              exact gRetV F hr hlocks hK hP hD hS rfl (by rw [ef]) (Nat.le_of_ble_eq_true rfl) (Nat.le_of_ble_eq_true rfl) dX7_restore_89
            · exact absurd (Int32.le_refl _) c_7
          | succ fu ih =>
            intro k hk hO H locs hP hD hS ls hl
            have hlt_k : k < 670 := by omega
            refine lv_iload_n hx hb dX7_restore_51 rfl (lv_at hl 0 rfl) ?_
            refine lv_sipush (v := 670) hx hb dX7_restore_52 (by decide) ?_
            refine lv_icmp_ge (tgt := 89) hx hb dX7_restore_55 (by decide) (fun c_8 => ?_) (fun c_8 => ?_)
            · exact absurd c_8 (nI_ge hlt_k (by decide))
            · skip
              refine lv_aload_n hx hb dX7_restore_58 rfl (lv_at hl 1 rfl) ?_
              refine va_get (D := G.1) (ci := 10) (v := .int 2) (C := RX7) (T := TX7) (N := 21) hx hb hts in_X7 hown hK hP 0 rfl rfl 0 (by decide) (hts _ k_fl_X7_76) (fun _ h9 => h9) rfl dX7_restore_59 ?_
              refine lv_if_ne (tgt := 89) hx hb dX7_restore_62 (by decide) (fun c_9 => ?_) (fun c_9 => ?_)
              · skip
                have ef : (f_X7_restore hf hs w saved p0) = (2, w) := hO
                exact gRetV F hr hlocks hK hP hD hS rfl (by rw [ef]) (Nat.le_of_ble_eq_true rfl) (Nat.le_of_ble_eq_true rfl) dX7_restore_89
              · exact absurd c_9 (by decide)
        exact loop_51 670 0 (by omega) (((if_neg c_1).trans ((if_neg c_2).trans (if_pos c_3)))) _ _ hP hD hS ls (lv_sub hl [0, 1, 2] rfl)
    · skip
      refine lv_aload_n hx hb dX7_restore_27 rfl (lv_at hl 0 rfl) ?_
      refine va_get (D := G.1) (ci := 10) (v := .int hf) (C := RX7) (T := TX7) (N := 21) hx hb hts in_X7 hown hK hP 0 rfl rfl 4 (by decide) (hts _ k_fl_X7_347) (fun _ h9 => h9) rfl dX7_restore_28 ?_
      refine lv_if_ne (tgt := 49) hx hb dX7_restore_31 (by decide) (fun c_10 => ?_) (fun c_10 => ?_)
      · skip
        refine lv_iconst (v := 0) hx hb dX7_restore_49 (by decide) ?_
        refine lv_istore_n (lv' := [(2, .int 0), (0, .ref m0), (1, .int p0)]) hx hb dX7_restore_50 rfl hl (by decide) rfl (fun ls hl => ?_)
        have loop_51 : ∀ (fu k : Nat) (z1 : Nat → Int32), k + fu = 670 → (f_X7_restore hf hs w saved p0) = wl_X7_restore_e2 saved p0 fu k z1 → ∀ (H : Heap) (locs : List Loc), va_P G.1 vwCl [(m0, .inr (10, [.int 0, .ref m1, .ref m2, .ref m3, .int hf, .int hs, .ref m6, .int len, .int ec, .int ep, .int pos, .int bg, .int bad, .ref m13, .ref m14, .int plc, .int sta, .ref m17, .ref m18, .ref m19, .int shm])), (m1, .inl (G.2.1.1, 670, .inl z1)), (m3, .inl (G.2.1.1, 1340, .inl saved))] H → va_D A [(m0, .inr (10, [.int 0, .ref m1, .ref m2, .ref m3, .int hf, .int hs, .ref m6, .int len, .int ec, .int ep, .int pos, .int bg, .int bad, .ref m13, .ref m14, .int plc, .int sta, .ref m17, .ref m18, .ref m19, .int shm])), (m1, .inl (G.2.1.1, 670, .inl z1)), (m3, .inl (G.2.1.1, 1340, .inl saved))] → va_S A s.heap H locs → ∀ ls : Array Slot, lv_has ls 3 [(2, .int (nI k)), (0, .ref m0), (1, .int p0)] → W p l e { frames := 1, cells := 0, slots := 0, locals := 25 } s m args below meth c H locs 0 0 (MQ below (gQ G none [(m0, .inr (10, [.int ((f_X7_restore hf hs w saved p0).1), .ref m1, .ref m2, .ref m3, .int hf, .int hs, .ref m6, .int len, .int ec, .int ep, .int pos, .int bg, .int bad, .ref m13, .ref m14, .int plc, .int sta, .ref m17, .ref m18, .ref m19, .int shm])), (m1, .inl (G.2.1.1, 670, .inl ((f_X7_restore hf hs w saved p0).2))), (m3, .inl (G.2.1.1, 1340, .inl saved))] A) args s 0 0 A) (F0 m 51 ls []) := by
          intro fu
          induction fu with
          | zero =>
            intro k z1 hk hO H locs hP hD hS ls hl
            have ek : 670 = k := by omega
            subst ek
            refine lv_iload_n hx hb dX7_restore_51 rfl (lv_at hl 0 rfl) ?_
            refine lv_sipush (v := 670) hx hb dX7_restore_52 (by decide) ?_
            refine lv_icmp_ge (tgt := 89) hx hb dX7_restore_55 (by decide) (fun c_11 => ?_) (fun c_11 => ?_)
            · skip
              have ef : (f_X7_restore hf hs w saved p0) = (0, z1) := hO
              exact gRetV F hr hlocks hK hP hD hS rfl (by rw [ef]) (Nat.le_of_ble_eq_true rfl) (Nat.le_of_ble_eq_true rfl) dX7_restore_89
            · exact absurd (Int32.le_refl _) c_11
          | succ fu ih =>
            intro k z1 hk hO H locs hP hD hS ls hl
            have hlt_k : k < 670 := by omega
            refine lv_iload_n hx hb dX7_restore_51 rfl (lv_at hl 0 rfl) ?_
            refine lv_sipush (v := 670) hx hb dX7_restore_52 (by decide) ?_
            refine lv_icmp_ge (tgt := 89) hx hb dX7_restore_55 (by decide) (fun c_12 => ?_) (fun c_12 => ?_)
            · exact absurd c_12 (nI_ge hlt_k (by decide))
            · skip
              refine lv_aload_n hx hb dX7_restore_58 rfl (lv_at hl 1 rfl) ?_
              refine va_get (D := G.1) (ci := 10) (v := .int 0) (C := RX7) (T := TX7) (N := 21) hx hb hts in_X7 hown hK hP 0 rfl rfl 0 (by decide) (hts _ k_fl_X7_76) (fun _ h9 => h9) rfl dX7_restore_59 ?_
              refine lv_if_ne (tgt := 89) hx hb dX7_restore_62 (by decide) (fun c_13 => ?_) (fun c_13 => ?_)
              · exact absurd c_13 (by decide)
              · skip
                refine lv_aload_n hx hb dX7_restore_65 rfl (lv_at hl 1 rfl) ?_
                refine va_get (D := G.1) (ci := 10) (v := .ref m1) (C := RX7) (T := TX7) (N := 21) hx hb hts in_X7 hown hK hP 0 rfl rfl 1 (by decide) (hts _ k_fl_X7_7) (fun _ h9 => h9) rfl dX7_restore_66 ?_
                refine lv_iload_n hx hb dX7_restore_69 rfl (lv_at hl 0 rfl) ?_
                refine lv_aload_n hx hb dX7_restore_70 rfl (lv_at hl 1 rfl) ?_
                refine va_get (D := G.1) (ci := 10) (v := .ref m3) (C := RX7) (T := TX7) (N := 21) hx hb hts in_X7 hown hK hP 0 rfl rfl 3 (by decide) (hts _ k_fl_X7_16) (fun _ h9 => h9) rfl dX7_restore_71 ?_
                refine lv_sipush (v := 670) hx hb dX7_restore_74 (by decide) ?_
                refine lv_iload_n hx hb dX7_restore_77 rfl (lv_at hl 2 rfl) ?_
                refine lv_imul hx hb dX7_restore_78 ?_
                refine lv_iload_n hx hb dX7_restore_79 rfl (lv_at hl 0 rfl) ?_
                refine lv_iadd hx hb dX7_restore_80 ?_
                refine va_iald hx hb hK hP 2 0 rfl rfl (by have qc_1 := in_ofI (a := 0) (b := 1) c_1 (by decide) (by decide); (try have hp1 : p0.toInt = 0 := by rw [c_2]; decide); have z0 : (670 : Int32).toInt = 670 := (by decide); (try have z2 := gI_mul (x := 670) (y := p0) (by (try rw [z0]); (try rw [z1]); omega) (by (try rw [z0]); (try rw [z1]); omega)); (try rw [z0, z1] at z2); (try rw [z0] at z2); (try rw [z1] at z2); have z3 := nI_toInt (n := k) (by omega); (try have z4 := gI_add (x := (670 * p0)) (y := (nI k)) (by omega) (by omega)); (try rw [vp_in_iff]); omega) dX7_restore_81 ?_
                refine gIast (k := k) hx hb hK hP hD hS 1 0 rfl rfl (nI_clamp (by omega)) (vp_in_nI (Nat.lt_of_lt_of_le hlt_k (Nat.le_of_ble_eq_true rfl)) (by decide)) dX7_restore_82 (fun H locs hP hD hS => ?_)
                replace hP : va_P G.1 vwCl [(m0, .inr (10, [.int 0, .ref m1, .ref m2, .ref m3, .int hf, .int hs, .ref m6, .int len, .int ec, .int ep, .int pos, .int bg, .int bad, .ref m13, .ref m14, .int plc, .int sta, .ref m17, .ref m18, .ref m19, .int shm])), (m1, .inl (G.2.1.1, 670, .inl (upd z1 k (saved (Int32.toNatClampNeg ((670 * p0) + (nI k))))))), (m3, .inl (G.2.1.1, 1340, .inl saved))] H := hP
                replace hD : va_D A [(m0, .inr (10, [.int 0, .ref m1, .ref m2, .ref m3, .int hf, .int hs, .ref m6, .int len, .int ec, .int ep, .int pos, .int bg, .int bad, .ref m13, .ref m14, .int plc, .int sta, .ref m17, .ref m18, .ref m19, .int shm])), (m1, .inl (G.2.1.1, 670, .inl (upd z1 k (saved (Int32.toNatClampNeg ((670 * p0) + (nI k))))))), (m3, .inl (G.2.1.1, 1340, .inl saved))] := hD
                refine lv_iinc (v := (nI (k + 1))) (lv' := [(2, .int (nI (k + 1))), (0, .ref m0), (1, .int p0)]) hx hb dX7_restore_83 hl (k := 0) rfl (nI_1 k) (by decide) rfl (fun ls hl => ?_)
                refine lv_goto (tgt := 51) hx hb dX7_restore_86 (by decide) ?_
                exact ih (k + 1) (upd z1 k (saved (Int32.toNatClampNeg ((670 * p0) + (nI k))))) (by omega) hO _ _ hP hD hS ls (lv_sub hl [0, 1, 2] rfl)
        exact loop_51 670 0 w (by omega) (((if_neg c_1).trans ((if_pos c_2).trans (if_neg c_10)))) _ _ hP hD hS ls (lv_sub hl [0, 1, 2] rfl)
      · skip
        refine lv_goto (tgt := 44) hx hb dX7_restore_34 (by decide) ?_
        refine lv_aload_n hx hb dX7_restore_44 rfl (lv_at hl 0 rfl) ?_
        refine lv_iconst (v := 2) hx hb dX7_restore_45 (by decide) ?_
        refine va_put (D := G.1) (ci := 10) (v := .int 2) (ty := .int) (C := RX7) (T := TX7) (N := 21) hx hb hts in_X7 tyX7 tyX7_ok nmX7 hown hK hP hD hS 0 rfl rfl 0 (by decide) (hts _ k_fl_X7_76) (fun _ h9 => h9) rfl (by decide +kernel) rfl rfl (Nat.le_of_ble_eq_true rfl) dX7_restore_46 (fun H locs hP hD hS => ?_)
        replace hP : va_P G.1 vwCl [(m0, .inr (10, [.int 2, .ref m1, .ref m2, .ref m3, .int hf, .int hs, .ref m6, .int len, .int ec, .int ep, .int pos, .int bg, .int bad, .ref m13, .ref m14, .int plc, .int sta, .ref m17, .ref m18, .ref m19, .int shm])), (m1, .inl (G.2.1.1, 670, .inl w)), (m3, .inl (G.2.1.1, 1340, .inl saved))] H := hP
        replace hD : va_D A [(m0, .inr (10, [.int 2, .ref m1, .ref m2, .ref m3, .int hf, .int hs, .ref m6, .int len, .int ec, .int ep, .int pos, .int bg, .int bad, .ref m13, .ref m14, .int plc, .int sta, .ref m17, .ref m18, .ref m19, .int shm])), (m1, .inl (G.2.1.1, 670, .inl w)), (m3, .inl (G.2.1.1, 1340, .inl saved))] := hD
        refine lv_iconst (v := 0) hx hb dX7_restore_49 (by decide) ?_
        refine lv_istore_n (lv' := [(2, .int 0), (0, .ref m0), (1, .int p0)]) hx hb dX7_restore_50 rfl hl (by decide) rfl (fun ls hl => ?_)
        have loop_51 : ∀ (fu k : Nat), k + fu = 670 → (f_X7_restore hf hs w saved p0) = wl_X7_restore_e3 w fu k → ∀ (H : Heap) (locs : List Loc), va_P G.1 vwCl [(m0, .inr (10, [.int 2, .ref m1, .ref m2, .ref m3, .int hf, .int hs, .ref m6, .int len, .int ec, .int ep, .int pos, .int bg, .int bad, .ref m13, .ref m14, .int plc, .int sta, .ref m17, .ref m18, .ref m19, .int shm])), (m1, .inl (G.2.1.1, 670, .inl w)), (m3, .inl (G.2.1.1, 1340, .inl saved))] H → va_D A [(m0, .inr (10, [.int 2, .ref m1, .ref m2, .ref m3, .int hf, .int hs, .ref m6, .int len, .int ec, .int ep, .int pos, .int bg, .int bad, .ref m13, .ref m14, .int plc, .int sta, .ref m17, .ref m18, .ref m19, .int shm])), (m1, .inl (G.2.1.1, 670, .inl w)), (m3, .inl (G.2.1.1, 1340, .inl saved))] → va_S A s.heap H locs → ∀ ls : Array Slot, lv_has ls 3 [(2, .int (nI k)), (0, .ref m0), (1, .int p0)] → W p l e { frames := 1, cells := 0, slots := 0, locals := 25 } s m args below meth c H locs 0 0 (MQ below (gQ G none [(m0, .inr (10, [.int ((f_X7_restore hf hs w saved p0).1), .ref m1, .ref m2, .ref m3, .int hf, .int hs, .ref m6, .int len, .int ec, .int ep, .int pos, .int bg, .int bad, .ref m13, .ref m14, .int plc, .int sta, .ref m17, .ref m18, .ref m19, .int shm])), (m1, .inl (G.2.1.1, 670, .inl ((f_X7_restore hf hs w saved p0).2))), (m3, .inl (G.2.1.1, 1340, .inl saved))] A) args s 0 0 A) (F0 m 51 ls []) := by
          intro fu
          induction fu with
          | zero =>
            intro k hk hO H locs hP hD hS ls hl
            have ek : 670 = k := by omega
            subst ek
            refine lv_iload_n hx hb dX7_restore_51 rfl (lv_at hl 0 rfl) ?_
            refine lv_sipush (v := 670) hx hb dX7_restore_52 (by decide) ?_
            refine lv_icmp_ge (tgt := 89) hx hb dX7_restore_55 (by decide) (fun c_14 => ?_) (fun c_14 => ?_)
            · skip
              have ef : (f_X7_restore hf hs w saved p0) = (2, w) := hO
              exact gRetV F hr hlocks hK hP hD hS rfl (by rw [ef]) (Nat.le_of_ble_eq_true rfl) (Nat.le_of_ble_eq_true rfl) dX7_restore_89
            · exact absurd (Int32.le_refl _) c_14
          | succ fu ih =>
            intro k hk hO H locs hP hD hS ls hl
            have hlt_k : k < 670 := by omega
            refine lv_iload_n hx hb dX7_restore_51 rfl (lv_at hl 0 rfl) ?_
            refine lv_sipush (v := 670) hx hb dX7_restore_52 (by decide) ?_
            refine lv_icmp_ge (tgt := 89) hx hb dX7_restore_55 (by decide) (fun c_15 => ?_) (fun c_15 => ?_)
            · exact absurd c_15 (nI_ge hlt_k (by decide))
            · skip
              refine lv_aload_n hx hb dX7_restore_58 rfl (lv_at hl 1 rfl) ?_
              refine va_get (D := G.1) (ci := 10) (v := .int 2) (C := RX7) (T := TX7) (N := 21) hx hb hts in_X7 hown hK hP 0 rfl rfl 0 (by decide) (hts _ k_fl_X7_76) (fun _ h9 => h9) rfl dX7_restore_59 ?_
              refine lv_if_ne (tgt := 89) hx hb dX7_restore_62 (by decide) (fun c_16 => ?_) (fun c_16 => ?_)
              · skip
                have ef : (f_X7_restore hf hs w saved p0) = (2, w) := hO
                exact gRetV F hr hlocks hK hP hD hS rfl (by rw [ef]) (Nat.le_of_ble_eq_true rfl) (Nat.le_of_ble_eq_true rfl) dX7_restore_89
              · exact absurd c_16 (by decide)
        exact loop_51 670 0 (by omega) (((if_neg c_1).trans ((if_pos c_2).trans (if_pos c_10)))) _ _ hP hD hS ls (lv_sub hl [0, 1, 2] rfl)
  · skip
    refine lv_aload_n hx hb dX7_restore_15 rfl (lv_at hl 0 rfl) ?_
    refine lv_iconst (v := 1) hx hb dX7_restore_16 (by decide) ?_
    refine va_put (D := G.1) (ci := 10) (v := .int 1) (ty := .int) (C := RX7) (T := TX7) (N := 21) hx hb hts in_X7 tyX7 tyX7_ok nmX7 hown hK hP hD hS 0 rfl rfl 0 (by decide) (hts _ k_fl_X7_76) (fun _ h9 => h9) rfl (by decide +kernel) rfl rfl (Nat.le_of_ble_eq_true rfl) dX7_restore_17 (fun H locs hP hD hS => ?_)
    replace hP : va_P G.1 vwCl [(m0, .inr (10, [.int 1, .ref m1, .ref m2, .ref m3, .int hf, .int hs, .ref m6, .int len, .int ec, .int ep, .int pos, .int bg, .int bad, .ref m13, .ref m14, .int plc, .int sta, .ref m17, .ref m18, .ref m19, .int shm])), (m1, .inl (G.2.1.1, 670, .inl w)), (m3, .inl (G.2.1.1, 1340, .inl saved))] H := hP
    replace hD : va_D A [(m0, .inr (10, [.int 1, .ref m1, .ref m2, .ref m3, .int hf, .int hs, .ref m6, .int len, .int ec, .int ep, .int pos, .int bg, .int bad, .ref m13, .ref m14, .int plc, .int sta, .ref m17, .ref m18, .ref m19, .int shm])), (m1, .inl (G.2.1.1, 670, .inl w)), (m3, .inl (G.2.1.1, 1340, .inl saved))] := hD
    refine lv_goto (tgt := 49) hx hb dX7_restore_20 (by decide) ?_
    refine lv_iconst (v := 0) hx hb dX7_restore_49 (by decide) ?_
    refine lv_istore_n (lv' := [(2, .int 0), (0, .ref m0), (1, .int p0)]) hx hb dX7_restore_50 rfl hl (by decide) rfl (fun ls hl => ?_)
    have loop_51 : ∀ (fu k : Nat), k + fu = 670 → (f_X7_restore hf hs w saved p0) = wl_X7_restore_e4 w fu k → ∀ (H : Heap) (locs : List Loc), va_P G.1 vwCl [(m0, .inr (10, [.int 1, .ref m1, .ref m2, .ref m3, .int hf, .int hs, .ref m6, .int len, .int ec, .int ep, .int pos, .int bg, .int bad, .ref m13, .ref m14, .int plc, .int sta, .ref m17, .ref m18, .ref m19, .int shm])), (m1, .inl (G.2.1.1, 670, .inl w)), (m3, .inl (G.2.1.1, 1340, .inl saved))] H → va_D A [(m0, .inr (10, [.int 1, .ref m1, .ref m2, .ref m3, .int hf, .int hs, .ref m6, .int len, .int ec, .int ep, .int pos, .int bg, .int bad, .ref m13, .ref m14, .int plc, .int sta, .ref m17, .ref m18, .ref m19, .int shm])), (m1, .inl (G.2.1.1, 670, .inl w)), (m3, .inl (G.2.1.1, 1340, .inl saved))] → va_S A s.heap H locs → ∀ ls : Array Slot, lv_has ls 3 [(2, .int (nI k)), (0, .ref m0), (1, .int p0)] → W p l e { frames := 1, cells := 0, slots := 0, locals := 25 } s m args below meth c H locs 0 0 (MQ below (gQ G none [(m0, .inr (10, [.int ((f_X7_restore hf hs w saved p0).1), .ref m1, .ref m2, .ref m3, .int hf, .int hs, .ref m6, .int len, .int ec, .int ep, .int pos, .int bg, .int bad, .ref m13, .ref m14, .int plc, .int sta, .ref m17, .ref m18, .ref m19, .int shm])), (m1, .inl (G.2.1.1, 670, .inl ((f_X7_restore hf hs w saved p0).2))), (m3, .inl (G.2.1.1, 1340, .inl saved))] A) args s 0 0 A) (F0 m 51 ls []) := by
      intro fu
      induction fu with
      | zero =>
        intro k hk hO H locs hP hD hS ls hl
        have ek : 670 = k := by omega
        subst ek
        refine lv_iload_n hx hb dX7_restore_51 rfl (lv_at hl 0 rfl) ?_
        refine lv_sipush (v := 670) hx hb dX7_restore_52 (by decide) ?_
        refine lv_icmp_ge (tgt := 89) hx hb dX7_restore_55 (by decide) (fun c_17 => ?_) (fun c_17 => ?_)
        · skip
          have ef : (f_X7_restore hf hs w saved p0) = (1, w) := hO
          exact gRetV F hr hlocks hK hP hD hS rfl (by rw [ef]) (Nat.le_of_ble_eq_true rfl) (Nat.le_of_ble_eq_true rfl) dX7_restore_89
        · exact absurd (Int32.le_refl _) c_17
      | succ fu ih =>
        intro k hk hO H locs hP hD hS ls hl
        have hlt_k : k < 670 := by omega
        refine lv_iload_n hx hb dX7_restore_51 rfl (lv_at hl 0 rfl) ?_
        refine lv_sipush (v := 670) hx hb dX7_restore_52 (by decide) ?_
        refine lv_icmp_ge (tgt := 89) hx hb dX7_restore_55 (by decide) (fun c_18 => ?_) (fun c_18 => ?_)
        · exact absurd c_18 (nI_ge hlt_k (by decide))
        · skip
          refine lv_aload_n hx hb dX7_restore_58 rfl (lv_at hl 1 rfl) ?_
          refine va_get (D := G.1) (ci := 10) (v := .int 1) (C := RX7) (T := TX7) (N := 21) hx hb hts in_X7 hown hK hP 0 rfl rfl 0 (by decide) (hts _ k_fl_X7_76) (fun _ h9 => h9) rfl dX7_restore_59 ?_
          refine lv_if_ne (tgt := 89) hx hb dX7_restore_62 (by decide) (fun c_19 => ?_) (fun c_19 => ?_)
          · skip
            have ef : (f_X7_restore hf hs w saved p0) = (1, w) := hO
            exact gRetV F hr hlocks hK hP hD hS rfl (by rw [ef]) (Nat.le_of_ble_eq_true rfl) (Nat.le_of_ble_eq_true rfl) dX7_restore_89
          · exact absurd c_19 (by decide)
    exact loop_51 670 0 (by omega) (if_pos c_1) _ _ hP hD hS ls (lv_sub hl [0, 1, 2] rfl)
theorem okV_X7_restore : gOkV yX7_restore cX7_restore 3 none 1 := ⟨⟨k_im_X7_restore, k_se_X7_restore, k_in_X7, k_cd_X7_restore⟩, by decide, by decide, by decide +kernel⟩
theorem until_rng {t c : Int32} (ht : 0 ≤ t.toInt ∧ t.toInt < 100000000) (hc : 0 ≤ c.toInt ∧ c.toInt < 32) : t.toInt ≤ (f_X7_until t c).toInt ∧ (f_X7_until t c).toInt ≤ t.toInt + 31 ∧ (f_X7_until t c).toInt % 32 = c.toInt := by
  unfold f_X7_until
  have h := wait_rng hc ht.1
  have e := gI_add (x := t) (y := ((c - (t % 32)) + 32) % 32) (by omega) (by omega)
  omega
theorem doneAt_rng {x t : Int32} (ht : 0 ≤ t.toInt ∧ t.toInt < 90000000) : t.toInt ≤ (f_X7_doneAt x t).toInt ∧ (f_X7_doneAt x t).toInt ≤ t.toInt + 100 := by
  have a := gI_and31 (x >>> ((7 : Int32) &&& 31))
  have o1 : (1 : Int32).toInt = 1 := (by decide)
  have o2 : (32 : Int32).toInt = 32 := (by decide)
  have o3 : (21 : Int32).toInt = 21 := (by decide)
  have e1 := gI_add (x := t) (y := 1) (by omega) (by omega)
  have e2 := gI_add (x := t + 1) (y := 1) (by omega) (by omega)
  have e3 := gI_add (x := t + 1 + 1) (y := (x >>> ((7 : Int32) &&& 31)) &&& 31) (by omega) (by omega)
  have u := until_rng (t := t + 1) (c := (x >>> ((7 : Int32) &&& 31)) &&& 31) (by omega) (by omega)
  have e4 := gI_add (x := f_X7_until (t + 1) ((x >>> ((7 : Int32) &&& 31)) &&& 31)) (y := 32) (by omega) (by omega)
  have e5 := gI_add (x := f_X7_until (t + 1) ((x >>> ((7 : Int32) &&& 31)) &&& 31) + 32) (y := 1) (by omega) (by omega)
  have e6 := gI_add (x := f_X7_until (t + 1) ((x >>> ((7 : Int32) &&& 31)) &&& 31)) (y := 21) (by omega) (by omega)
  have e7 := gI_add (x := f_X7_until (t + 1) ((x >>> ((7 : Int32) &&& 31)) &&& 31)) (y := 1) (by omega) (by omega)
  unfold f_X7_doneAt
  repeat (first | omega | split)
theorem ideal_rng {w : Nat → Int32} {p : Int32} (h : 0 ≤ p.toInt ∧ p.toInt < 256) : 0 ≤ (f_X7_idealOf w p).toInt ∧ (f_X7_idealOf w p).toInt < 32 := by
  unfold f_X7_idealOf
  have m := mod32_rng h.1
  have d := doneAt_rng (x := w (Int32.toNatClampNeg (414 + p))) (t := p % 32) (by omega)
  exact mod32_rng (by omega)
def wl_X7_bestFree (w : Nat → Int32) (p0 : Int32) (p1 : Int32) : Nat → Nat → Int32
  | 0, _ =>
    (-1)
  | n + 1, k =>
    if ((32 * p1) + (((f_X7_idealOf w p0) + (nI k)) % 32)) = p0 then
      wl_X7_bestFree w p0 p1 n (k + 1)
    else
      if (w (Int32.toNatClampNeg (414 + ((32 * p1) + (((f_X7_idealOf w p0) + (nI k)) % 32))))) = 0 then
        (((32 * p1) + (((f_X7_idealOf w p0) + (nI k)) % 32)) % 32)
      else
        wl_X7_bestFree w p0 p1 n (k + 1)
def f_X7_bestFree (w : Nat → Int32) (p0 : Int32) (p1 : Int32) : Int32 :=
  (wl_X7_bestFree w p0 p1 32 0)
set_option maxRecDepth 100000 in
set_option maxHeartbeats 4000000 in
theorem c_X7_bestFree (l : Launch) (G : gG) (m0 : Nat) (m1 : Nat) (m2 : Nat) (m3 : Nat) (m6 : Nat) (m13 : Nat) (m14 : Nat) (m17 : Nat) (m18 : Nat) (m19 : Nat) (rz : Int32) (hf : Int32) (hs : Int32) (len : Int32) (ec : Int32) (ep : Int32) (pos : Int32) (bg : Int32) (bad : Int32) (plc : Int32) (sta : Int32) (shm : Int32) (w : Nat → Int32) (p0 : Int32) (p1 : Int32) (hop : 0 ≤ p0.toInt ∧ p0.toInt < 256) (ht2 : 0 ≤ p1.toInt ∧ p1.toInt < 8) : gM l G yX7_bestFree cX7_bestFree 6 (some .int) { frames := 3, cells := 0, slots := 0, locals := 66 } [.ref m0, .int p0, .int p1] [(m0, .inr (10, [.int rz, .ref m1, .ref m2, .ref m3, .int hf, .int hs, .ref m6, .int len, .int ec, .int ep, .int pos, .int bg, .int bad, .ref m13, .ref m14, .int plc, .int sta, .ref m17, .ref m18, .ref m19, .int shm])), (m1, .inl (G.2.1.1, 670, .inl w))] (some (.int (f_X7_bestFree w p0 p1))) [(m0, .inr (10, [.int rz, .ref m1, .ref m2, .ref m3, .int hf, .int hs, .ref m6, .int len, .int ec, .int ep, .int pos, .int bg, .int bad, .ref m13, .ref m14, .int plc, .int sta, .ref m17, .ref m18, .ref m19, .int shm])), (m1, .inl (G.2.1.1, 670, .inl w))] 0 0 := by
  refine gBegin (by decide +kernel) (Nat.le_of_ble_eq_true rfl) (fun p e s m args below meth c A F hr hlocks hname hN hK hP hD hA hS ls hl => ?_)
  obtain ⟨hx, hb, hml, hown, hts⟩ := id F
  replace hP : va_P G.1 vwCl [(m0, .inr (10, [.int rz, .ref m1, .ref m2, .ref m3, .int hf, .int hs, .ref m6, .int len, .int ec, .int ep, .int pos, .int bg, .int bad, .ref m13, .ref m14, .int plc, .int sta, .ref m17, .ref m18, .ref m19, .int shm])), (m1, .inl (G.2.1.1, 670, .inl w))] s.heap := hP
  replace hl : lv_has ls 6 [(0, .ref m0), (1, .int p0), (2, .int p1)] := hl
  refine lv_aload_n hx hb dX7_bestFree_0 rfl (lv_at hl 0 rfl) ?_
  refine lv_iload_n hx hb dX7_bestFree_1 rfl (lv_at hl 1 rfl) ?_
  refine gV (As := [.int p0]) (rest := []) (wr := []) (ws' := [(m0, .inr (10, [.int rz, .ref m1, .ref m2, .ref m3, .int hf, .int hs, .ref m6, .int len, .int ec, .int ep, .int pos, .int bg, .int bad, .ref m13, .ref m14, .int plc, .int sta, .ref m17, .ref m18, .ref m19, .int shm])), (m1, .inl (G.2.1.1, 670, .inl w))]) F (c_X7_idealOf l G m0 m1 m2 m3 m6 m13 m14 m17 m18 m19 rz hf hs len ec ep pos bg bad plc sta shm w p0 (by have hid := ideal_rng (w := w) hop; omega)) okV_X7_idealOf k_ml_X7_323 rfl rfl ⟨Nat.le_of_ble_eq_true rfl, Nat.le_of_ble_eq_true rfl⟩ hN hK hP hD hS hA [0, 1] [] [0, 1] (by decide) rfl rfl (by decide) (by decide) (by decide) rfl (q0 := 0) rfl rfl rfl rfl hl.1 (Nat.le_of_ble_eq_true rfl) dX7_bestFree_2 ⟨Nat.le_refl _, Nat.le_refl _⟩ (fun H locs hP hD hS => ?_)
  refine lv_istore_n (lv' := [(3, .int (f_X7_idealOf w p0)), (0, .ref m0), (1, .int p0), (2, .int p1)]) hx hb dX7_bestFree_5 rfl hl (by decide) rfl (fun ls hl => ?_)
  refine lv_iconst (v := 0) hx hb dX7_bestFree_6 (by decide) ?_
  refine lv_istore (lv' := [(4, .int 0), (3, .int (f_X7_idealOf w p0)), (0, .ref m0), (1, .int p0), (2, .int p1)]) hx hb dX7_bestFree_7 hl (by decide) rfl (fun ls hl => ?_)
  have loop_9 : ∀ (fu k : Nat), k + fu = 32 → (f_X7_bestFree w p0 p1) = wl_X7_bestFree w p0 p1 fu k → ∀ (H : Heap) (locs : List Loc), va_P G.1 vwCl [(m0, .inr (10, [.int rz, .ref m1, .ref m2, .ref m3, .int hf, .int hs, .ref m6, .int len, .int ec, .int ep, .int pos, .int bg, .int bad, .ref m13, .ref m14, .int plc, .int sta, .ref m17, .ref m18, .ref m19, .int shm])), (m1, .inl (G.2.1.1, 670, .inl w))] H → va_D A [(m0, .inr (10, [.int rz, .ref m1, .ref m2, .ref m3, .int hf, .int hs, .ref m6, .int len, .int ec, .int ep, .int pos, .int bg, .int bad, .ref m13, .ref m14, .int plc, .int sta, .ref m17, .ref m18, .ref m19, .int shm])), (m1, .inl (G.2.1.1, 670, .inl w))] → va_S A s.heap H locs → ∀ ls : Array Slot, lv_has ls 6 [(4, .int (nI k)), (3, .int (f_X7_idealOf w p0)), (0, .ref m0), (1, .int p0), (2, .int p1)] → W p l e { frames := 3, cells := 0, slots := 0, locals := 66 } s m args below meth c H locs 0 0 (MQ below (gQ G (some (.int (f_X7_bestFree w p0 p1))) [(m0, .inr (10, [.int rz, .ref m1, .ref m2, .ref m3, .int hf, .int hs, .ref m6, .int len, .int ec, .int ep, .int pos, .int bg, .int bad, .ref m13, .ref m14, .int plc, .int sta, .ref m17, .ref m18, .ref m19, .int shm])), (m1, .inl (G.2.1.1, 670, .inl w))] A) args s 0 0 A) (F0 m 9 ls []) := by
    intro fu
    induction fu with
    | zero =>
      intro k hk hO H locs hP hD hS ls hl
      have ek : 32 = k := by omega
      subst ek
      refine lv_iload hx hb dX7_bestFree_9 (lv_at hl 0 rfl) ?_
      refine lv_bipush (v := 32) hx hb dX7_bestFree_11 (by decide) ?_
      refine lv_icmp_ge (tgt := 62) hx hb dX7_bestFree_13 (by decide) (fun c_1 => ?_) (fun c_1 => ?_)
      · skip
        refine lv_iconst (v := (-1)) hx hb dX7_bestFree_62 (by decide) ?_
        have ef : (f_X7_bestFree w p0 p1) = (-1) := hO
        exact gRetI F hr hlocks hK hP hD hS (by rw [ef]) rfl (Nat.le_of_ble_eq_true rfl) (Nat.le_of_ble_eq_true rfl) dX7_bestFree_63
      · exact absurd (Int32.le_refl _) c_1
    | succ fu ih =>
      intro k hk hO H locs hP hD hS ls hl
      have hlt_k : k < 32 := by omega
      refine lv_iload hx hb dX7_bestFree_9 (lv_at hl 0 rfl) ?_
      refine lv_bipush (v := 32) hx hb dX7_bestFree_11 (by decide) ?_
      refine lv_icmp_ge (tgt := 62) hx hb dX7_bestFree_13 (by decide) (fun c_2 => ?_) (fun c_2 => ?_)
      · exact absurd c_2 (nI_ge hlt_k (by decide))
      · skip
        refine lv_bipush (v := 32) hx hb dX7_bestFree_16 (by decide) ?_
        refine lv_iload_n hx hb dX7_bestFree_18 rfl (lv_at hl 4 rfl) ?_
        refine lv_imul hx hb dX7_bestFree_19 ?_
        refine lv_iload_n hx hb dX7_bestFree_20 rfl (lv_at hl 1 rfl) ?_
        refine lv_iload hx hb dX7_bestFree_21 (lv_at hl 0 rfl) ?_
        refine lv_iadd hx hb dX7_bestFree_23 ?_
        refine lv_bipush (v := 32) hx hb dX7_bestFree_24 (by decide) ?_
        refine gIrem hx hb dX7_bestFree_26 (by decide) ?_
        refine lv_iadd hx hb dX7_bestFree_27 ?_
        refine lv_istore (lv' := [(5, .int ((32 * p1) + (((f_X7_idealOf w p0) + (nI k)) % 32))), (4, .int (nI k)), (3, .int (f_X7_idealOf w p0)), (0, .ref m0), (1, .int p0), (2, .int p1)]) hx hb dX7_bestFree_28 hl (by decide) rfl (fun ls hl => ?_)
        refine lv_iload hx hb dX7_bestFree_30 (lv_at hl 0 rfl) ?_
        refine lv_iload_n hx hb dX7_bestFree_32 rfl (lv_at hl 4 rfl) ?_
        refine lv_icmp_eq (tgt := 56) hx hb dX7_bestFree_33 (by decide) (fun c_3 => ?_) (fun c_3 => ?_)
        · skip
          refine lv_iinc (v := (nI (k + 1))) (lv' := [(4, .int (nI (k + 1))), (5, .int ((32 * p1) + (((f_X7_idealOf w p0) + (nI k)) % 32))), (3, .int (f_X7_idealOf w p0)), (0, .ref m0), (1, .int p0), (2, .int p1)]) hx hb dX7_bestFree_56 hl (k := 1) rfl (nI_1 k) (by decide) rfl (fun ls hl => ?_)
          refine lv_goto (tgt := 9) hx hb dX7_bestFree_59 (by decide) ?_
          exact ih (k + 1) (by omega) (hO.trans (if_pos c_3)) _ _ hP hD hS ls (lv_sub hl [0, 2, 3, 4, 5] rfl)
        · skip
          refine lv_aload_n hx hb dX7_bestFree_36 rfl (lv_at hl 3 rfl) ?_
          refine va_get (D := G.1) (ci := 10) (v := .ref m1) (C := RX7) (T := TX7) (N := 21) hx hb hts in_X7 hown hK hP 0 rfl rfl 1 (by decide) (hts _ k_fl_X7_7) (fun _ h9 => h9) rfl dX7_bestFree_37 ?_
          refine lv_sipush (v := 414) hx hb dX7_bestFree_40 (by decide) ?_
          refine lv_iload hx hb dX7_bestFree_43 (lv_at hl 0 rfl) ?_
          refine lv_iadd hx hb dX7_bestFree_45 ?_
          refine va_iald hx hb hK hP 1 0 rfl rfl (by have hid := ideal_rng (w := w) hop; have z0 : (414 : Int32).toInt = 414 := (by decide); have z1 : (32 : Int32).toInt = 32 := (by decide); (try have z3 := gI_mul (x := 32) (y := p1) (by (try rw [z1]); (try rw [z2]); omega) (by (try rw [z1]); (try rw [z2]); omega)); (try rw [z1, z2] at z3); (try rw [z1] at z3); (try rw [z2] at z3); have z5 := nI_toInt (n := k) (by omega); (try have z6 := gI_add (x := (f_X7_idealOf w p0)) (y := (nI k)) (by omega) (by omega)); (try have z7 := gI_modL (x := ((f_X7_idealOf w p0) + (nI k))) (y := 32) (d := 32) (by omega) (by decide)); have z7b := gI_modB (x := ((f_X7_idealOf w p0) + (nI k))) (y := 32) (d := 32) (by decide) (by decide); (try have z8 := gI_add (x := (32 * p1)) (y := (((f_X7_idealOf w p0) + (nI k)) % 32)) (by omega) (by omega)); (try have z9 := gI_add (x := 414) (y := ((32 * p1) + (((f_X7_idealOf w p0) + (nI k)) % 32))) (by omega) (by omega)); (try rw [vp_in_iff]); omega) dX7_bestFree_46 ?_
          refine lv_if_ne (tgt := 56) hx hb dX7_bestFree_47 (by decide) (fun c_4 => ?_) (fun c_4 => ?_)
          · skip
            refine lv_iinc (v := (nI (k + 1))) (lv' := [(4, .int (nI (k + 1))), (5, .int ((32 * p1) + (((f_X7_idealOf w p0) + (nI k)) % 32))), (3, .int (f_X7_idealOf w p0)), (0, .ref m0), (1, .int p0), (2, .int p1)]) hx hb dX7_bestFree_56 hl (k := 1) rfl (nI_1 k) (by decide) rfl (fun ls hl => ?_)
            refine lv_goto (tgt := 9) hx hb dX7_bestFree_59 (by decide) ?_
            exact ih (k + 1) (by omega) (hO.trans (((if_neg c_3).trans (if_neg c_4)))) _ _ hP hD hS ls (lv_sub hl [0, 2, 3, 4, 5] rfl)
          · skip
            refine lv_iload hx hb dX7_bestFree_50 (lv_at hl 0 rfl) ?_
            refine lv_bipush (v := 32) hx hb dX7_bestFree_52 (by decide) ?_
            refine gIrem hx hb dX7_bestFree_54 (by decide) ?_
            have ef : (f_X7_bestFree w p0 p1) = (((32 * p1) + (((f_X7_idealOf w p0) + (nI k)) % 32)) % 32) := (hO.trans (((if_neg c_3).trans (if_pos c_4))))
            exact gRetI F hr hlocks hK hP hD hS (by rw [ef]) rfl (Nat.le_of_ble_eq_true rfl) (Nat.le_of_ble_eq_true rfl) dX7_bestFree_55
  exact loop_9 32 0 (by omega) (rfl) _ _ hP hD hS ls (lv_sub hl [0, 1, 2, 3, 4] rfl)
theorem okV_X7_bestFree : gOkV yX7_bestFree cX7_bestFree 6 (some .int) 2 := ⟨⟨k_im_X7_bestFree, k_se_X7_bestFree, k_in_X7, k_cd_X7_bestFree⟩, by decide, by decide, by decide +kernel⟩
theorem bestFree_rngA {w : Nat → Int32} {p0 p1 : Int32} (hop : 0 ≤ p0.toInt ∧ p0.toInt < 256) (ht : 0 ≤ p1.toInt ∧ p1.toInt < 8) : ∀ n k, k + n ≤ 32 → wl_X7_bestFree w p0 p1 n k = -1 ∨ (0 ≤ (wl_X7_bestFree w p0 p1 n k).toInt ∧ (wl_X7_bestFree w p0 p1 n k).toInt < 32) := by
  intro n
  induction n with
  | zero => intro k _; exact Or.inl rfl
  | succ n ih =>
    intro k hk
    have hid := ideal_rng (w := w) hop
    have z := nI_toInt (n := k) (by omega)
    have e1 := gI_add (x := f_X7_idealOf w p0) (y := nI k) (by omega) (by omega)
    have e2 := gI_modL (x := f_X7_idealOf w p0 + nI k) (y := 32) (d := 32) (by omega) (by decide)
    have o : (32 : Int32).toInt = 32 := (by decide)
    have e3 := gI_mul (x := 32) (y := p1) (by rw [o]; omega) (by rw [o]; omega)
    rw [o] at e3
    have e4 := gI_add (x := 32 * p1) (y := (f_X7_idealOf w p0 + nI k) % 32) (by omega) (by omega)
    have e5 := mod32_rng (x := 32 * p1 + (f_X7_idealOf w p0 + nI k) % 32) (by omega)
    unfold wl_X7_bestFree
    split
    · exact ih (k + 1) (by omega)
    · split
      · exact Or.inr e5
      · exact ih (k + 1) (by omega)
theorem bestFree_rng {w : Nat → Int32} {p0 p1 : Int32} (hop : 0 ≤ p0.toInt ∧ p0.toInt < 256) (ht : 0 ≤ p1.toInt ∧ p1.toInt < 8) (h : ¬ f_X7_bestFree w p0 p1 = -1) : 0 ≤ (f_X7_bestFree w p0 p1).toInt ∧ (f_X7_bestFree w p0 p1).toInt < 32 := (bestFree_rngA hop ht 32 0 (by decide)).resolve_left h
theorem loc_ix {p q : Int32} (h : (0 ≤ p.toInt ∧ p.toInt < 8) ∧ 0 ≤ q.toInt ∧ q.toInt < 32) : 0 ≤ (32 * p + q).toInt ∧ (32 * p + q).toInt < 256 := by
  have o : (32 : Int32).toInt = 32 := (by decide)
  have e3 := gI_mul (x := 32) (y := p) (by rw [o]; omega) (by rw [o]; omega)
  rw [o] at e3
  have e4 := gI_add (x := 32 * p) (y := q) (by omega) (by omega)
  omega
def f_X7_bestFreeCycle (w : Nat → Int32) (p0 : Int32) (p1 : Int32) (p2 : Int32) : Int32 × Int32 :=
  if (f_X7_isLocation p0 p1) = 0 then
    ((f_X7_fails 1).1, (f_X7_fails 1).2)
  else
    if (f_X7_isTank p2) = 0 then
      ((f_X7_fails 1).1, (f_X7_fails 1).2)
    else
      ((f_X7_bestFree w ((32 * p0) + p1) p2), 0)
set_option maxRecDepth 100000 in
set_option maxHeartbeats 4000000 in
theorem c_X7_bestFreeCycle (l : Launch) (G : gG) (m0 : Nat) (m1 : Nat) (m2 : Nat) (m3 : Nat) (m6 : Nat) (m13 : Nat) (m14 : Nat) (m17 : Nat) (m18 : Nat) (m19 : Nat) (rz : Int32) (hf : Int32) (hs : Int32) (len : Int32) (ec : Int32) (ep : Int32) (pos : Int32) (bg : Int32) (bad : Int32) (plc : Int32) (sta : Int32) (shm : Int32) (w : Nat → Int32) (p0 : Int32) (p1 : Int32) (p2 : Int32) : gM l G yX7_bestFreeCycle cX7_bestFreeCycle 4 (some .int) { frames := 4, cells := 0, slots := 0, locals := 91 } [.ref m0, .int p0, .int p1, .int p2] [(m0, .inr (10, [.int rz, .ref m1, .ref m2, .ref m3, .int hf, .int hs, .ref m6, .int len, .int ec, .int ep, .int pos, .int bg, .int bad, .ref m13, .ref m14, .int plc, .int sta, .ref m17, .ref m18, .ref m19, .int shm])), (m1, .inl (G.2.1.1, 670, .inl w))] (some (.int ((f_X7_bestFreeCycle w p0 p1 p2).1))) [(m0, .inr (10, [.int ((f_X7_bestFreeCycle w p0 p1 p2).2), .ref m1, .ref m2, .ref m3, .int hf, .int hs, .ref m6, .int len, .int ec, .int ep, .int pos, .int bg, .int bad, .ref m13, .ref m14, .int plc, .int sta, .ref m17, .ref m18, .ref m19, .int shm])), (m1, .inl (G.2.1.1, 670, .inl w))] 0 0 := by
  refine gBegin (by decide +kernel) (Nat.le_of_ble_eq_true rfl) (fun p e s m args below meth c A F hr hlocks hname hN hK hP hD hA hS ls hl => ?_)
  obtain ⟨hx, hb, hml, hown, hts⟩ := id F
  replace hP : va_P G.1 vwCl [(m0, .inr (10, [.int rz, .ref m1, .ref m2, .ref m3, .int hf, .int hs, .ref m6, .int len, .int ec, .int ep, .int pos, .int bg, .int bad, .ref m13, .ref m14, .int plc, .int sta, .ref m17, .ref m18, .ref m19, .int shm])), (m1, .inl (G.2.1.1, 670, .inl w))] s.heap := hP
  replace hl : lv_has ls 4 [(0, .ref m0), (1, .int p0), (2, .int p1), (3, .int p2)] := hl
  refine lv_aload_n hx hb dX7_bestFreeCycle_0 rfl (lv_at hl 0 rfl) ?_
  refine lv_iconst (v := 0) hx hb dX7_bestFreeCycle_1 (by decide) ?_
  refine va_put (D := G.1) (ci := 10) (v := .int 0) (ty := .int) (C := RX7) (T := TX7) (N := 21) hx hb hts in_X7 tyX7 tyX7_ok nmX7 hown hK hP hD hS 0 rfl rfl 0 (by decide) (hts _ k_fl_X7_76) (fun _ h9 => h9) rfl (by decide +kernel) rfl rfl (Nat.le_of_ble_eq_true rfl) dX7_bestFreeCycle_2 (fun H locs hP hD hS => ?_)
  replace hP : va_P G.1 vwCl [(m0, .inr (10, [.int 0, .ref m1, .ref m2, .ref m3, .int hf, .int hs, .ref m6, .int len, .int ec, .int ep, .int pos, .int bg, .int bad, .ref m13, .ref m14, .int plc, .int sta, .ref m17, .ref m18, .ref m19, .int shm])), (m1, .inl (G.2.1.1, 670, .inl w))] H := hP
  replace hD : va_D A [(m0, .inr (10, [.int 0, .ref m1, .ref m2, .ref m3, .int hf, .int hs, .ref m6, .int len, .int ec, .int ep, .int pos, .int bg, .int bad, .ref m13, .ref m14, .int plc, .int sta, .ref m17, .ref m18, .ref m19, .int shm])), (m1, .inl (G.2.1.1, 670, .inl w))] := hD
  refine lv_iload_n hx hb dX7_bestFreeCycle_5 rfl (lv_at hl 1 rfl) ?_
  refine lv_iload_n hx hb dX7_bestFreeCycle_6 rfl (lv_at hl 2 rfl) ?_
  refine gS (As := [.int p0, .int p1]) (rest := []) (wr := [(m0, .inr (10, [.int 0, .ref m1, .ref m2, .ref m3, .int hf, .int hs, .ref m6, .int len, .int ec, .int ep, .int pos, .int bg, .int bad, .ref m13, .ref m14, .int plc, .int sta, .ref m17, .ref m18, .ref m19, .int shm])), (m1, .inl (G.2.1.1, 670, .inl w))]) (ws' := [(m0, .inr (10, [.int 0, .ref m1, .ref m2, .ref m3, .int hf, .int hs, .ref m6, .int len, .int ec, .int ep, .int pos, .int bg, .int bad, .ref m13, .ref m14, .int plc, .int sta, .ref m17, .ref m18, .ref m19, .int shm])), (m1, .inl (G.2.1.1, 670, .inl w))]) F (c_X7_isLocation l G p0 p1) okS_X7_isLocation k_ml_X7_193 rfl rfl ⟨Nat.le_of_ble_eq_true rfl, Nat.le_of_ble_eq_true rfl⟩ hN hK hP hD hS hA [] [0, 1] [0, 1] (by decide) rfl rfl (by decide) (by decide) (by decide) rfl rfl rfl hl.1 (Nat.le_of_ble_eq_true rfl) dX7_bestFreeCycle_7 ⟨Nat.le_refl _, Nat.le_refl _⟩ (fun H locs hP hD hS => ?_)
  refine lv_if_eq (tgt := 34) hx hb dX7_bestFreeCycle_10 (by decide) (fun c_1 => ?_) (fun c_1 => ?_)
  · skip
    refine lv_aload_n hx hb dX7_bestFreeCycle_34 rfl (lv_at hl 0 rfl) ?_
    refine lv_iconst (v := 1) hx hb dX7_bestFreeCycle_35 (by decide) ?_
    refine gV (As := [.int 1]) (rest := []) (wr := [(m1, .inl (G.2.1.1, 670, .inl w))]) (ws' := [(m0, .inr (10, [.int ((f_X7_fails 1).2), .ref m1, .ref m2, .ref m3, .int hf, .int hs, .ref m6, .int len, .int ec, .int ep, .int pos, .int bg, .int bad, .ref m13, .ref m14, .int plc, .int sta, .ref m17, .ref m18, .ref m19, .int shm])), (m1, .inl (G.2.1.1, 670, .inl w))]) F (c_X7_fails l G m0 m1 m2 m3 m6 m13 m14 m17 m18 m19 0 hf hs len ec ep pos bg bad plc sta shm 1) okV_X7_fails k_ml_X7_98 rfl rfl ⟨Nat.le_of_ble_eq_true rfl, Nat.le_of_ble_eq_true rfl⟩ hN hK hP hD hS hA [0] [1] [1, 0] (by decide) rfl rfl (by decide) (by decide) (by decide) rfl (q0 := 0) rfl rfl rfl rfl hl.1 (Nat.le_of_ble_eq_true rfl) dX7_bestFreeCycle_36 ⟨Nat.le_refl _, Nat.le_refl _⟩ (fun H locs hP hD hS => ?_)
    have ef : (f_X7_bestFreeCycle w p0 p1 p2) = ((f_X7_fails 1).1, (f_X7_fails 1).2) := (if_pos c_1)
    exact gRetI F hr hlocks hK hP hD hS (by rw [ef]) (by rw [ef]) (Nat.le_of_ble_eq_true rfl) (Nat.le_of_ble_eq_true rfl) dX7_bestFreeCycle_39
  · skip
    refine lv_iload_n hx hb dX7_bestFreeCycle_13 rfl (lv_at hl 3 rfl) ?_
    refine gS (As := [.int p2]) (rest := []) (wr := [(m0, .inr (10, [.int 0, .ref m1, .ref m2, .ref m3, .int hf, .int hs, .ref m6, .int len, .int ec, .int ep, .int pos, .int bg, .int bad, .ref m13, .ref m14, .int plc, .int sta, .ref m17, .ref m18, .ref m19, .int shm])), (m1, .inl (G.2.1.1, 670, .inl w))]) (ws' := [(m0, .inr (10, [.int 0, .ref m1, .ref m2, .ref m3, .int hf, .int hs, .ref m6, .int len, .int ec, .int ep, .int pos, .int bg, .int bad, .ref m13, .ref m14, .int plc, .int sta, .ref m17, .ref m18, .ref m19, .int shm])), (m1, .inl (G.2.1.1, 670, .inl w))]) F (c_X7_isTank l G p2) okS_X7_isTank k_ml_X7_85 rfl rfl ⟨Nat.le_of_ble_eq_true rfl, Nat.le_of_ble_eq_true rfl⟩ hN hK hP hD hS hA [] [0, 1] [0, 1] (by decide) rfl rfl (by decide) (by decide) (by decide) rfl rfl rfl hl.1 (Nat.le_of_ble_eq_true rfl) dX7_bestFreeCycle_14 ⟨Nat.le_refl _, Nat.le_refl _⟩ (fun H locs hP hD hS => ?_)
    refine lv_if_eq (tgt := 34) hx hb dX7_bestFreeCycle_17 (by decide) (fun c_2 => ?_) (fun c_2 => ?_)
    · skip
      refine lv_aload_n hx hb dX7_bestFreeCycle_34 rfl (lv_at hl 0 rfl) ?_
      refine lv_iconst (v := 1) hx hb dX7_bestFreeCycle_35 (by decide) ?_
      refine gV (As := [.int 1]) (rest := []) (wr := [(m1, .inl (G.2.1.1, 670, .inl w))]) (ws' := [(m0, .inr (10, [.int ((f_X7_fails 1).2), .ref m1, .ref m2, .ref m3, .int hf, .int hs, .ref m6, .int len, .int ec, .int ep, .int pos, .int bg, .int bad, .ref m13, .ref m14, .int plc, .int sta, .ref m17, .ref m18, .ref m19, .int shm])), (m1, .inl (G.2.1.1, 670, .inl w))]) F (c_X7_fails l G m0 m1 m2 m3 m6 m13 m14 m17 m18 m19 0 hf hs len ec ep pos bg bad plc sta shm 1) okV_X7_fails k_ml_X7_98 rfl rfl ⟨Nat.le_of_ble_eq_true rfl, Nat.le_of_ble_eq_true rfl⟩ hN hK hP hD hS hA [0] [1] [1, 0] (by decide) rfl rfl (by decide) (by decide) (by decide) rfl (q0 := 0) rfl rfl rfl rfl hl.1 (Nat.le_of_ble_eq_true rfl) dX7_bestFreeCycle_36 ⟨Nat.le_refl _, Nat.le_refl _⟩ (fun H locs hP hD hS => ?_)
      have ef : (f_X7_bestFreeCycle w p0 p1 p2) = ((f_X7_fails 1).1, (f_X7_fails 1).2) := ((if_neg c_1).trans (if_pos c_2))
      exact gRetI F hr hlocks hK hP hD hS (by rw [ef]) (by rw [ef]) (Nat.le_of_ble_eq_true rfl) (Nat.le_of_ble_eq_true rfl) dX7_bestFreeCycle_39
    · skip
      refine lv_aload_n hx hb dX7_bestFreeCycle_20 rfl (lv_at hl 0 rfl) ?_
      refine lv_bipush (v := 32) hx hb dX7_bestFreeCycle_21 (by decide) ?_
      refine lv_iload_n hx hb dX7_bestFreeCycle_23 rfl (lv_at hl 1 rfl) ?_
      refine lv_imul hx hb dX7_bestFreeCycle_24 ?_
      refine lv_iload_n hx hb dX7_bestFreeCycle_25 rfl (lv_at hl 2 rfl) ?_
      refine lv_iadd hx hb dX7_bestFreeCycle_26 ?_
      refine lv_iload_n hx hb dX7_bestFreeCycle_27 rfl (lv_at hl 3 rfl) ?_
      refine gV (As := [.int ((32 * p0) + p1), .int p2]) (rest := []) (wr := []) (ws' := [(m0, .inr (10, [.int 0, .ref m1, .ref m2, .ref m3, .int hf, .int hs, .ref m6, .int len, .int ec, .int ep, .int pos, .int bg, .int bad, .ref m13, .ref m14, .int plc, .int sta, .ref m17, .ref m18, .ref m19, .int shm])), (m1, .inl (G.2.1.1, 670, .inl w))]) F (c_X7_bestFree l G m0 m1 m2 m3 m6 m13 m14 m17 m18 m19 0 hf hs len ec ep pos bg bad plc sta shm w ((32 * p0) + p1) p2 (by have qc_1 := loc_of c_1; have qc_2 := tank_of c_2; have z0 : (32 : Int32).toInt = 32 := (by decide); (try have z2 := gI_mul (x := 32) (y := p0) (by (try rw [z0]); (try rw [z1]); omega) (by (try rw [z0]); (try rw [z1]); omega)); (try rw [z0, z1] at z2); (try rw [z0] at z2); (try rw [z1] at z2); (try have z4 := gI_add (x := (32 * p0)) (y := p1) (by omega) (by omega)); omega) (by have qc_1 := loc_of c_1; have qc_2 := tank_of c_2; omega)) okV_X7_bestFree k_ml_X7_328 rfl rfl ⟨Nat.le_of_ble_eq_true rfl, Nat.le_of_ble_eq_true rfl⟩ hN hK hP hD hS hA [0, 1] [] [0, 1] (by decide) rfl rfl (by decide) (by decide) (by decide) rfl (q0 := 0) rfl rfl rfl rfl hl.1 (Nat.le_of_ble_eq_true rfl) dX7_bestFreeCycle_28 ⟨Nat.le_refl _, Nat.le_refl _⟩ (fun H locs hP hD hS => ?_)
      refine lv_goto (tgt := 39) hx hb dX7_bestFreeCycle_31 (by decide) ?_
      have ef : (f_X7_bestFreeCycle w p0 p1 p2) = ((f_X7_bestFree w ((32 * p0) + p1) p2), 0) := ((if_neg c_1).trans (if_neg c_2))
      exact gRetI F hr hlocks hK hP hD hS (by rw [ef]) (by rw [ef]) (Nat.le_of_ble_eq_true rfl) (Nat.le_of_ble_eq_true rfl) dX7_bestFreeCycle_39
theorem okV_X7_bestFreeCycle : gOkV yX7_bestFreeCycle cX7_bestFreeCycle 4 (some .int) 3 := ⟨⟨k_im_X7_bestFreeCycle, k_se_X7_bestFreeCycle, k_in_X7, k_cd_X7_bestFreeCycle⟩, by decide, by decide, by decide +kernel⟩
def f_X7_moveNext (w : Nat → Int32) (p0 : Int32) (p1 : Int32) (p2 : Int32) : Int32 × Int32 × (Nat → Int32) :=
  if (f_X7_isLocation p0 p1) = 0 then
    ((f_X7_fails 1).1, (f_X7_fails 1).2, w)
  else
    if (f_X7_isTank p2) = 0 then
      ((f_X7_fails 1).1, (f_X7_fails 1).2, w)
    else
      if (f_X7_bestFree w ((32 * p0) + p1) p2) = (-1) then
        ((f_X7_fails 2).1, (f_X7_fails 2).2, w)
      else
        if (f_X7_nextOf (w (Int32.toNatClampNeg (414 + ((32 * p0) + p1))))) = ((32 * p0) + p1) then
          ((f_X7_fails 2).1, (f_X7_fails 2).2, w)
        else
          ((f_X7_bestFree w ((32 * p0) + p1) p2), 0, (upd (upd (upd w (Int32.toNatClampNeg (414 + (f_X7_nextOf (w (Int32.toNatClampNeg (414 + ((32 * p0) + p1))))))) 0) (Int32.toNatClampNeg (414 + ((32 * p2) + (f_X7_bestFree w ((32 * p0) + p1) p2)))) (w (Int32.toNatClampNeg (414 + (f_X7_nextOf (w (Int32.toNatClampNeg (414 + ((32 * p0) + p1))))))))) (Int32.toNatClampNeg (414 + ((32 * p0) + p1))) (((((upd (upd w (Int32.toNatClampNeg (414 + (f_X7_nextOf (w (Int32.toNatClampNeg (414 + ((32 * p0) + p1))))))) 0) (Int32.toNatClampNeg (414 + ((32 * p2) + (f_X7_bestFree w ((32 * p0) + p1) p2)))) (w (Int32.toNatClampNeg (414 + (f_X7_nextOf (w (Int32.toNatClampNeg (414 + ((32 * p0) + p1))))))))) (Int32.toNatClampNeg (414 + ((32 * p0) + p1)))) &&& 4095) ||| ((p2 <<< ((12 : Int32) &&& 31)) : Int32)) ||| (((f_X7_bestFree w ((32 * p0) + p1) p2) <<< ((15 : Int32) &&& 31)) : Int32))))
set_option maxRecDepth 100000 in
set_option maxHeartbeats 4000000 in
theorem c_X7_moveNext (l : Launch) (G : gG) (m0 : Nat) (m1 : Nat) (m2 : Nat) (m3 : Nat) (m6 : Nat) (m13 : Nat) (m14 : Nat) (m17 : Nat) (m18 : Nat) (m19 : Nat) (rz : Int32) (hf : Int32) (hs : Int32) (len : Int32) (ec : Int32) (ep : Int32) (pos : Int32) (bg : Int32) (bad : Int32) (plc : Int32) (sta : Int32) (shm : Int32) (w : Nat → Int32) (p0 : Int32) (p1 : Int32) (p2 : Int32) : gM l G yX7_moveNext cX7_moveNext 9 (some .int) { frames := 4, cells := 0, slots := 0, locals := 91 } [.ref m0, .int p0, .int p1, .int p2] [(m0, .inr (10, [.int rz, .ref m1, .ref m2, .ref m3, .int hf, .int hs, .ref m6, .int len, .int ec, .int ep, .int pos, .int bg, .int bad, .ref m13, .ref m14, .int plc, .int sta, .ref m17, .ref m18, .ref m19, .int shm])), (m1, .inl (G.2.1.1, 670, .inl w))] (some (.int ((f_X7_moveNext w p0 p1 p2).1))) [(m0, .inr (10, [.int ((f_X7_moveNext w p0 p1 p2).2.1), .ref m1, .ref m2, .ref m3, .int hf, .int hs, .ref m6, .int len, .int ec, .int ep, .int pos, .int bg, .int bad, .ref m13, .ref m14, .int plc, .int sta, .ref m17, .ref m18, .ref m19, .int shm])), (m1, .inl (G.2.1.1, 670, .inl ((f_X7_moveNext w p0 p1 p2).2.2)))] 0 0 := by
  refine gBegin (by decide +kernel) (Nat.le_of_ble_eq_true rfl) (fun p e s m args below meth c A F hr hlocks hname hN hK hP hD hA hS ls hl => ?_)
  obtain ⟨hx, hb, hml, hown, hts⟩ := id F
  replace hP : va_P G.1 vwCl [(m0, .inr (10, [.int rz, .ref m1, .ref m2, .ref m3, .int hf, .int hs, .ref m6, .int len, .int ec, .int ep, .int pos, .int bg, .int bad, .ref m13, .ref m14, .int plc, .int sta, .ref m17, .ref m18, .ref m19, .int shm])), (m1, .inl (G.2.1.1, 670, .inl w))] s.heap := hP
  replace hl : lv_has ls 9 [(0, .ref m0), (1, .int p0), (2, .int p1), (3, .int p2)] := hl
  refine lv_aload_n hx hb dX7_moveNext_0 rfl (lv_at hl 0 rfl) ?_
  refine lv_iconst (v := 0) hx hb dX7_moveNext_1 (by decide) ?_
  refine va_put (D := G.1) (ci := 10) (v := .int 0) (ty := .int) (C := RX7) (T := TX7) (N := 21) hx hb hts in_X7 tyX7 tyX7_ok nmX7 hown hK hP hD hS 0 rfl rfl 0 (by decide) (hts _ k_fl_X7_76) (fun _ h9 => h9) rfl (by decide +kernel) rfl rfl (Nat.le_of_ble_eq_true rfl) dX7_moveNext_2 (fun H locs hP hD hS => ?_)
  replace hP : va_P G.1 vwCl [(m0, .inr (10, [.int 0, .ref m1, .ref m2, .ref m3, .int hf, .int hs, .ref m6, .int len, .int ec, .int ep, .int pos, .int bg, .int bad, .ref m13, .ref m14, .int plc, .int sta, .ref m17, .ref m18, .ref m19, .int shm])), (m1, .inl (G.2.1.1, 670, .inl w))] H := hP
  replace hD : va_D A [(m0, .inr (10, [.int 0, .ref m1, .ref m2, .ref m3, .int hf, .int hs, .ref m6, .int len, .int ec, .int ep, .int pos, .int bg, .int bad, .ref m13, .ref m14, .int plc, .int sta, .ref m17, .ref m18, .ref m19, .int shm])), (m1, .inl (G.2.1.1, 670, .inl w))] := hD
  refine lv_iload_n hx hb dX7_moveNext_5 rfl (lv_at hl 1 rfl) ?_
  refine lv_iload_n hx hb dX7_moveNext_6 rfl (lv_at hl 2 rfl) ?_
  refine gS (As := [.int p0, .int p1]) (rest := []) (wr := [(m0, .inr (10, [.int 0, .ref m1, .ref m2, .ref m3, .int hf, .int hs, .ref m6, .int len, .int ec, .int ep, .int pos, .int bg, .int bad, .ref m13, .ref m14, .int plc, .int sta, .ref m17, .ref m18, .ref m19, .int shm])), (m1, .inl (G.2.1.1, 670, .inl w))]) (ws' := [(m0, .inr (10, [.int 0, .ref m1, .ref m2, .ref m3, .int hf, .int hs, .ref m6, .int len, .int ec, .int ep, .int pos, .int bg, .int bad, .ref m13, .ref m14, .int plc, .int sta, .ref m17, .ref m18, .ref m19, .int shm])), (m1, .inl (G.2.1.1, 670, .inl w))]) F (c_X7_isLocation l G p0 p1) okS_X7_isLocation k_ml_X7_193 rfl rfl ⟨Nat.le_of_ble_eq_true rfl, Nat.le_of_ble_eq_true rfl⟩ hN hK hP hD hS hA [] [0, 1] [0, 1] (by decide) rfl rfl (by decide) (by decide) (by decide) rfl rfl rfl hl.1 (Nat.le_of_ble_eq_true rfl) dX7_moveNext_7 ⟨Nat.le_refl _, Nat.le_refl _⟩ (fun H locs hP hD hS => ?_)
  refine lv_if_eq (tgt := 20) hx hb dX7_moveNext_10 (by decide) (fun c_1 => ?_) (fun c_1 => ?_)
  · skip
    refine lv_aload_n hx hb dX7_moveNext_20 rfl (lv_at hl 0 rfl) ?_
    refine lv_iconst (v := 1) hx hb dX7_moveNext_21 (by decide) ?_
    refine gV (As := [.int 1]) (rest := []) (wr := [(m1, .inl (G.2.1.1, 670, .inl w))]) (ws' := [(m0, .inr (10, [.int ((f_X7_fails 1).2), .ref m1, .ref m2, .ref m3, .int hf, .int hs, .ref m6, .int len, .int ec, .int ep, .int pos, .int bg, .int bad, .ref m13, .ref m14, .int plc, .int sta, .ref m17, .ref m18, .ref m19, .int shm])), (m1, .inl (G.2.1.1, 670, .inl w))]) F (c_X7_fails l G m0 m1 m2 m3 m6 m13 m14 m17 m18 m19 0 hf hs len ec ep pos bg bad plc sta shm 1) okV_X7_fails k_ml_X7_98 rfl rfl ⟨Nat.le_of_ble_eq_true rfl, Nat.le_of_ble_eq_true rfl⟩ hN hK hP hD hS hA [0] [1] [1, 0] (by decide) rfl rfl (by decide) (by decide) (by decide) rfl (q0 := 0) rfl rfl rfl rfl hl.1 (Nat.le_of_ble_eq_true rfl) dX7_moveNext_22 ⟨Nat.le_refl _, Nat.le_refl _⟩ (fun H locs hP hD hS => ?_)
    have ef : (f_X7_moveNext w p0 p1 p2) = ((f_X7_fails 1).1, (f_X7_fails 1).2, w) := (if_pos c_1)
    exact gRetI F hr hlocks hK hP hD hS (by rw [ef]) (by rw [ef]) (Nat.le_of_ble_eq_true rfl) (Nat.le_of_ble_eq_true rfl) dX7_moveNext_25
  · skip
    refine lv_iload_n hx hb dX7_moveNext_13 rfl (lv_at hl 3 rfl) ?_
    refine gS (As := [.int p2]) (rest := []) (wr := [(m0, .inr (10, [.int 0, .ref m1, .ref m2, .ref m3, .int hf, .int hs, .ref m6, .int len, .int ec, .int ep, .int pos, .int bg, .int bad, .ref m13, .ref m14, .int plc, .int sta, .ref m17, .ref m18, .ref m19, .int shm])), (m1, .inl (G.2.1.1, 670, .inl w))]) (ws' := [(m0, .inr (10, [.int 0, .ref m1, .ref m2, .ref m3, .int hf, .int hs, .ref m6, .int len, .int ec, .int ep, .int pos, .int bg, .int bad, .ref m13, .ref m14, .int plc, .int sta, .ref m17, .ref m18, .ref m19, .int shm])), (m1, .inl (G.2.1.1, 670, .inl w))]) F (c_X7_isTank l G p2) okS_X7_isTank k_ml_X7_85 rfl rfl ⟨Nat.le_of_ble_eq_true rfl, Nat.le_of_ble_eq_true rfl⟩ hN hK hP hD hS hA [] [0, 1] [0, 1] (by decide) rfl rfl (by decide) (by decide) (by decide) rfl rfl rfl hl.1 (Nat.le_of_ble_eq_true rfl) dX7_moveNext_14 ⟨Nat.le_refl _, Nat.le_refl _⟩ (fun H locs hP hD hS => ?_)
    refine lv_if_ne (tgt := 26) hx hb dX7_moveNext_17 (by decide) (fun c_2 => ?_) (fun c_2 => ?_)
    · skip
      refine lv_bipush (v := 32) hx hb dX7_moveNext_26 (by decide) ?_
      refine lv_iload_n hx hb dX7_moveNext_28 rfl (lv_at hl 1 rfl) ?_
      refine lv_imul hx hb dX7_moveNext_29 ?_
      refine lv_iload_n hx hb dX7_moveNext_30 rfl (lv_at hl 2 rfl) ?_
      refine lv_iadd hx hb dX7_moveNext_31 ?_
      refine lv_istore (lv' := [(4, .int ((32 * p0) + p1)), (0, .ref m0), (1, .int p0), (2, .int p1), (3, .int p2)]) hx hb dX7_moveNext_32 hl (by decide) rfl (fun ls hl => ?_)
      refine lv_aload_n hx hb dX7_moveNext_34 rfl (lv_at hl 1 rfl) ?_
      refine lv_iload hx hb dX7_moveNext_35 (lv_at hl 0 rfl) ?_
      refine lv_iload_n hx hb dX7_moveNext_37 rfl (lv_at hl 4 rfl) ?_
      refine gV (As := [.int ((32 * p0) + p1), .int p2]) (rest := []) (wr := []) (ws' := [(m0, .inr (10, [.int 0, .ref m1, .ref m2, .ref m3, .int hf, .int hs, .ref m6, .int len, .int ec, .int ep, .int pos, .int bg, .int bad, .ref m13, .ref m14, .int plc, .int sta, .ref m17, .ref m18, .ref m19, .int shm])), (m1, .inl (G.2.1.1, 670, .inl w))]) F (c_X7_bestFree l G m0 m1 m2 m3 m6 m13 m14 m17 m18 m19 0 hf hs len ec ep pos bg bad plc sta shm w ((32 * p0) + p1) p2 (by have qc_1 := loc_of c_1; have qc_2 := tank_of c_2; have z0 : (32 : Int32).toInt = 32 := (by decide); (try have z2 := gI_mul (x := 32) (y := p0) (by (try rw [z0]); (try rw [z1]); omega) (by (try rw [z0]); (try rw [z1]); omega)); (try rw [z0, z1] at z2); (try rw [z0] at z2); (try rw [z1] at z2); (try have z4 := gI_add (x := (32 * p0)) (y := p1) (by omega) (by omega)); omega) (by have qc_1 := loc_of c_1; have qc_2 := tank_of c_2; omega)) okV_X7_bestFree k_ml_X7_328 rfl rfl ⟨Nat.le_of_ble_eq_true rfl, Nat.le_of_ble_eq_true rfl⟩ hN hK hP hD hS hA [0, 1] [] [0, 1] (by decide) rfl rfl (by decide) (by decide) (by decide) rfl (q0 := 0) rfl rfl rfl rfl hl.1 (Nat.le_of_ble_eq_true rfl) dX7_moveNext_38 ⟨Nat.le_refl _, Nat.le_refl _⟩ (fun H locs hP hD hS => ?_)
      refine lv_istore (lv' := [(5, .int (f_X7_bestFree w ((32 * p0) + p1) p2)), (4, .int ((32 * p0) + p1)), (0, .ref m0), (1, .int p0), (2, .int p1), (3, .int p2)]) hx hb dX7_moveNext_41 hl (by decide) rfl (fun ls hl => ?_)
      refine lv_aload_n hx hb dX7_moveNext_43 rfl (lv_at hl 2 rfl) ?_
      refine va_get (D := G.1) (ci := 10) (v := .ref m1) (C := RX7) (T := TX7) (N := 21) hx hb hts in_X7 hown hK hP 0 rfl rfl 1 (by decide) (hts _ k_fl_X7_7) (fun _ h9 => h9) rfl dX7_moveNext_44 ?_
      refine lv_sipush (v := 414) hx hb dX7_moveNext_47 (by decide) ?_
      refine lv_iload hx hb dX7_moveNext_50 (lv_at hl 1 rfl) ?_
      refine lv_iadd hx hb dX7_moveNext_52 ?_
      refine va_iald hx hb hK hP 1 0 rfl rfl (by have qc_1 := loc_of c_1; have qc_2 := tank_of c_2; have z0 : (414 : Int32).toInt = 414 := (by decide); have z1 : (32 : Int32).toInt = 32 := (by decide); (try have z3 := gI_mul (x := 32) (y := p0) (by (try rw [z1]); (try rw [z2]); omega) (by (try rw [z1]); (try rw [z2]); omega)); (try rw [z1, z2] at z3); (try rw [z1] at z3); (try rw [z2] at z3); (try have z5 := gI_add (x := (32 * p0)) (y := p1) (by omega) (by omega)); (try have z6 := gI_add (x := 414) (y := ((32 * p0) + p1)) (by omega) (by omega)); (try rw [vp_in_iff]); omega) dX7_moveNext_53 ?_
      refine gS (As := [.int (w (Int32.toNatClampNeg (414 + ((32 * p0) + p1))))]) (rest := []) (wr := [(m0, .inr (10, [.int 0, .ref m1, .ref m2, .ref m3, .int hf, .int hs, .ref m6, .int len, .int ec, .int ep, .int pos, .int bg, .int bad, .ref m13, .ref m14, .int plc, .int sta, .ref m17, .ref m18, .ref m19, .int shm])), (m1, .inl (G.2.1.1, 670, .inl w))]) (ws' := [(m0, .inr (10, [.int 0, .ref m1, .ref m2, .ref m3, .int hf, .int hs, .ref m6, .int len, .int ec, .int ep, .int pos, .int bg, .int bad, .ref m13, .ref m14, .int plc, .int sta, .ref m17, .ref m18, .ref m19, .int shm])), (m1, .inl (G.2.1.1, 670, .inl w))]) F (c_X7_nextOf l G (w (Int32.toNatClampNeg (414 + ((32 * p0) + p1))))) okS_X7_nextOf k_ml_X7_301 rfl rfl ⟨Nat.le_of_ble_eq_true rfl, Nat.le_of_ble_eq_true rfl⟩ hN hK hP hD hS hA [] [0, 1] [0, 1] (by decide) rfl rfl (by decide) (by decide) (by decide) rfl rfl rfl hl.1 (Nat.le_of_ble_eq_true rfl) dX7_moveNext_54 ⟨Nat.le_refl _, Nat.le_refl _⟩ (fun H locs hP hD hS => ?_)
      refine lv_istore (lv' := [(6, .int (f_X7_nextOf (w (Int32.toNatClampNeg (414 + ((32 * p0) + p1)))))), (5, .int (f_X7_bestFree w ((32 * p0) + p1) p2)), (4, .int ((32 * p0) + p1)), (0, .ref m0), (1, .int p0), (2, .int p1), (3, .int p2)]) hx hb dX7_moveNext_57 hl (by decide) rfl (fun ls hl => ?_)
      refine lv_iload hx hb dX7_moveNext_59 (lv_at hl 1 rfl) ?_
      refine lv_iconst (v := (-1)) hx hb dX7_moveNext_61 (by decide) ?_
      refine lv_icmp_eq (tgt := 72) hx hb dX7_moveNext_62 (by decide) (fun c_3 => ?_) (fun c_3 => ?_)
      · skip
        refine lv_aload_n hx hb dX7_moveNext_72 rfl (lv_at hl 3 rfl) ?_
        refine lv_iconst (v := 2) hx hb dX7_moveNext_73 (by decide) ?_
        refine gV (As := [.int 2]) (rest := []) (wr := [(m1, .inl (G.2.1.1, 670, .inl w))]) (ws' := [(m0, .inr (10, [.int ((f_X7_fails 2).2), .ref m1, .ref m2, .ref m3, .int hf, .int hs, .ref m6, .int len, .int ec, .int ep, .int pos, .int bg, .int bad, .ref m13, .ref m14, .int plc, .int sta, .ref m17, .ref m18, .ref m19, .int shm])), (m1, .inl (G.2.1.1, 670, .inl w))]) F (c_X7_fails l G m0 m1 m2 m3 m6 m13 m14 m17 m18 m19 0 hf hs len ec ep pos bg bad plc sta shm 2) okV_X7_fails k_ml_X7_98 rfl rfl ⟨Nat.le_of_ble_eq_true rfl, Nat.le_of_ble_eq_true rfl⟩ hN hK hP hD hS hA [0] [1] [1, 0] (by decide) rfl rfl (by decide) (by decide) (by decide) rfl (q0 := 0) rfl rfl rfl rfl hl.1 (Nat.le_of_ble_eq_true rfl) dX7_moveNext_74 ⟨Nat.le_refl _, Nat.le_refl _⟩ (fun H locs hP hD hS => ?_)
        have ef : (f_X7_moveNext w p0 p1 p2) = ((f_X7_fails 2).1, (f_X7_fails 2).2, w) := ((if_neg c_1).trans ((if_neg c_2).trans (if_pos c_3)))
        exact gRetI F hr hlocks hK hP hD hS (by rw [ef]) (by rw [ef]) (Nat.le_of_ble_eq_true rfl) (Nat.le_of_ble_eq_true rfl) dX7_moveNext_77
      · skip
        refine lv_iload hx hb dX7_moveNext_65 (lv_at hl 0 rfl) ?_
        refine lv_iload hx hb dX7_moveNext_67 (lv_at hl 2 rfl) ?_
        refine lv_icmp_ne (tgt := 78) hx hb dX7_moveNext_69 (by decide) (fun c_4 => ?_) (fun c_4 => ?_)
        · skip
          refine lv_bipush (v := 32) hx hb dX7_moveNext_78 (by decide) ?_
          refine lv_iload_n hx hb dX7_moveNext_80 rfl (lv_at hl 6 rfl) ?_
          refine lv_imul hx hb dX7_moveNext_81 ?_
          refine lv_iload hx hb dX7_moveNext_82 (lv_at hl 1 rfl) ?_
          refine lv_iadd hx hb dX7_moveNext_84 ?_
          refine lv_istore (lv' := [(7, .int ((32 * p2) + (f_X7_bestFree w ((32 * p0) + p1) p2))), (6, .int (f_X7_nextOf (w (Int32.toNatClampNeg (414 + ((32 * p0) + p1)))))), (5, .int (f_X7_bestFree w ((32 * p0) + p1) p2)), (4, .int ((32 * p0) + p1)), (0, .ref m0), (1, .int p0), (2, .int p1), (3, .int p2)]) hx hb dX7_moveNext_85 hl (by decide) rfl (fun ls hl => ?_)
          refine lv_aload_n hx hb dX7_moveNext_87 rfl (lv_at hl 4 rfl) ?_
          refine va_get (D := G.1) (ci := 10) (v := .ref m1) (C := RX7) (T := TX7) (N := 21) hx hb hts in_X7 hown hK hP 0 rfl rfl 1 (by decide) (hts _ k_fl_X7_7) (fun _ h9 => h9) rfl dX7_moveNext_88 ?_
          refine lv_sipush (v := 414) hx hb dX7_moveNext_91 (by decide) ?_
          refine lv_iload hx hb dX7_moveNext_94 (lv_at hl 1 rfl) ?_
          refine lv_iadd hx hb dX7_moveNext_96 ?_
          refine va_iald hx hb hK hP 1 0 rfl rfl (by have qc_1 := loc_of c_1; have qc_2 := tank_of c_2; have qc_3 := bestFree_rng (loc_ix (loc_of c_1)) (tank_of c_2) c_3; have z0 : (414 : Int32).toInt = 414 := (by decide); (try have z1 := (next_rng _ : 0 ≤ ((f_X7_nextOf (w (Int32.toNatClampNeg (414 + ((32 * p0) + p1)))))).toInt ∧ ((f_X7_nextOf (w (Int32.toNatClampNeg (414 + ((32 * p0) + p1)))))).toInt < 256)); (try have z2 := gI_add (x := 414) (y := (f_X7_nextOf (w (Int32.toNatClampNeg (414 + ((32 * p0) + p1)))))) (by omega) (by omega)); (try rw [vp_in_iff]); omega) dX7_moveNext_97 ?_
          refine lv_istore (lv' := [(8, .int (w (Int32.toNatClampNeg (414 + (f_X7_nextOf (w (Int32.toNatClampNeg (414 + ((32 * p0) + p1))))))))), (7, .int ((32 * p2) + (f_X7_bestFree w ((32 * p0) + p1) p2))), (6, .int (f_X7_nextOf (w (Int32.toNatClampNeg (414 + ((32 * p0) + p1)))))), (5, .int (f_X7_bestFree w ((32 * p0) + p1) p2)), (4, .int ((32 * p0) + p1)), (0, .ref m0), (1, .int p0), (2, .int p1), (3, .int p2)]) hx hb dX7_moveNext_98 hl (by decide) rfl (fun ls hl => ?_)
          refine lv_aload_n hx hb dX7_moveNext_100 rfl (lv_at hl 5 rfl) ?_
          refine va_get (D := G.1) (ci := 10) (v := .ref m1) (C := RX7) (T := TX7) (N := 21) hx hb hts in_X7 hown hK hP 0 rfl rfl 1 (by decide) (hts _ k_fl_X7_7) (fun _ h9 => h9) rfl dX7_moveNext_101 ?_
          refine lv_sipush (v := 414) hx hb dX7_moveNext_104 (by decide) ?_
          refine lv_iload hx hb dX7_moveNext_107 (lv_at hl 2 rfl) ?_
          refine lv_iadd hx hb dX7_moveNext_109 ?_
          refine lv_iconst (v := 0) hx hb dX7_moveNext_110 (by decide) ?_
          refine va_iast hx hb hK hP hD hS 1 0 rfl rfl (by have qc_1 := loc_of c_1; have qc_2 := tank_of c_2; have qc_3 := bestFree_rng (loc_ix (loc_of c_1)) (tank_of c_2) c_3; have z0 : (414 : Int32).toInt = 414 := (by decide); (try have z1 := (next_rng _ : 0 ≤ ((f_X7_nextOf (w (Int32.toNatClampNeg (414 + ((32 * p0) + p1)))))).toInt ∧ ((f_X7_nextOf (w (Int32.toNatClampNeg (414 + ((32 * p0) + p1)))))).toInt < 256)); (try have z2 := gI_add (x := 414) (y := (f_X7_nextOf (w (Int32.toNatClampNeg (414 + ((32 * p0) + p1)))))) (by omega) (by omega)); (try rw [vp_in_iff]); omega) dX7_moveNext_111 (fun H locs hP hD hS => ?_)
          replace hP : va_P G.1 vwCl [(m0, .inr (10, [.int 0, .ref m1, .ref m2, .ref m3, .int hf, .int hs, .ref m6, .int len, .int ec, .int ep, .int pos, .int bg, .int bad, .ref m13, .ref m14, .int plc, .int sta, .ref m17, .ref m18, .ref m19, .int shm])), (m1, .inl (G.2.1.1, 670, .inl (upd w (Int32.toNatClampNeg (414 + (f_X7_nextOf (w (Int32.toNatClampNeg (414 + ((32 * p0) + p1))))))) 0)))] H := hP
          replace hD : va_D A [(m0, .inr (10, [.int 0, .ref m1, .ref m2, .ref m3, .int hf, .int hs, .ref m6, .int len, .int ec, .int ep, .int pos, .int bg, .int bad, .ref m13, .ref m14, .int plc, .int sta, .ref m17, .ref m18, .ref m19, .int shm])), (m1, .inl (G.2.1.1, 670, .inl (upd w (Int32.toNatClampNeg (414 + (f_X7_nextOf (w (Int32.toNatClampNeg (414 + ((32 * p0) + p1))))))) 0)))] := hD
          refine lv_aload_n hx hb dX7_moveNext_112 rfl (lv_at hl 5 rfl) ?_
          refine va_get (D := G.1) (ci := 10) (v := .ref m1) (C := RX7) (T := TX7) (N := 21) hx hb hts in_X7 hown hK hP 0 rfl rfl 1 (by decide) (hts _ k_fl_X7_7) (fun _ h9 => h9) rfl dX7_moveNext_113 ?_
          refine lv_sipush (v := 414) hx hb dX7_moveNext_116 (by decide) ?_
          refine lv_iload hx hb dX7_moveNext_119 (lv_at hl 1 rfl) ?_
          refine lv_iadd hx hb dX7_moveNext_121 ?_
          refine lv_iload hx hb dX7_moveNext_122 (lv_at hl 0 rfl) ?_
          refine va_iast hx hb hK hP hD hS 1 0 rfl rfl (by have qc_1 := loc_of c_1; have qc_2 := tank_of c_2; have qc_3 := bestFree_rng (loc_ix (loc_of c_1)) (tank_of c_2) c_3; have z0 : (414 : Int32).toInt = 414 := (by decide); have z1 : (32 : Int32).toInt = 32 := (by decide); (try have z3 := gI_mul (x := 32) (y := p2) (by (try rw [z1]); (try rw [z2]); omega) (by (try rw [z1]); (try rw [z2]); omega)); (try rw [z1, z2] at z3); (try rw [z1] at z3); (try rw [z2] at z3); (try have z5 := gI_add (x := (32 * p2)) (y := (f_X7_bestFree w ((32 * p0) + p1) p2)) (by omega) (by omega)); (try have z6 := gI_add (x := 414) (y := ((32 * p2) + (f_X7_bestFree w ((32 * p0) + p1) p2))) (by omega) (by omega)); (try rw [vp_in_iff]); omega) dX7_moveNext_124 (fun H locs hP hD hS => ?_)
          replace hP : va_P G.1 vwCl [(m0, .inr (10, [.int 0, .ref m1, .ref m2, .ref m3, .int hf, .int hs, .ref m6, .int len, .int ec, .int ep, .int pos, .int bg, .int bad, .ref m13, .ref m14, .int plc, .int sta, .ref m17, .ref m18, .ref m19, .int shm])), (m1, .inl (G.2.1.1, 670, .inl (upd (upd w (Int32.toNatClampNeg (414 + (f_X7_nextOf (w (Int32.toNatClampNeg (414 + ((32 * p0) + p1))))))) 0) (Int32.toNatClampNeg (414 + ((32 * p2) + (f_X7_bestFree w ((32 * p0) + p1) p2)))) (w (Int32.toNatClampNeg (414 + (f_X7_nextOf (w (Int32.toNatClampNeg (414 + ((32 * p0) + p1)))))))))))] H := hP
          replace hD : va_D A [(m0, .inr (10, [.int 0, .ref m1, .ref m2, .ref m3, .int hf, .int hs, .ref m6, .int len, .int ec, .int ep, .int pos, .int bg, .int bad, .ref m13, .ref m14, .int plc, .int sta, .ref m17, .ref m18, .ref m19, .int shm])), (m1, .inl (G.2.1.1, 670, .inl (upd (upd w (Int32.toNatClampNeg (414 + (f_X7_nextOf (w (Int32.toNatClampNeg (414 + ((32 * p0) + p1))))))) 0) (Int32.toNatClampNeg (414 + ((32 * p2) + (f_X7_bestFree w ((32 * p0) + p1) p2)))) (w (Int32.toNatClampNeg (414 + (f_X7_nextOf (w (Int32.toNatClampNeg (414 + ((32 * p0) + p1)))))))))))] := hD
          refine lv_aload_n hx hb dX7_moveNext_125 rfl (lv_at hl 5 rfl) ?_
          refine va_get (D := G.1) (ci := 10) (v := .ref m1) (C := RX7) (T := TX7) (N := 21) hx hb hts in_X7 hown hK hP 0 rfl rfl 1 (by decide) (hts _ k_fl_X7_7) (fun _ h9 => h9) rfl dX7_moveNext_126 ?_
          refine lv_sipush (v := 414) hx hb dX7_moveNext_129 (by decide) ?_
          refine lv_iload hx hb dX7_moveNext_132 (lv_at hl 4 rfl) ?_
          refine lv_iadd hx hb dX7_moveNext_134 ?_
          refine lv_aload_n hx hb dX7_moveNext_135 rfl (lv_at hl 5 rfl) ?_
          refine va_get (D := G.1) (ci := 10) (v := .ref m1) (C := RX7) (T := TX7) (N := 21) hx hb hts in_X7 hown hK hP 0 rfl rfl 1 (by decide) (hts _ k_fl_X7_7) (fun _ h9 => h9) rfl dX7_moveNext_136 ?_
          refine lv_sipush (v := 414) hx hb dX7_moveNext_139 (by decide) ?_
          refine lv_iload hx hb dX7_moveNext_142 (lv_at hl 4 rfl) ?_
          refine lv_iadd hx hb dX7_moveNext_144 ?_
          refine va_iald hx hb hK hP 1 0 rfl rfl (by have qc_1 := loc_of c_1; have qc_2 := tank_of c_2; have qc_3 := bestFree_rng (loc_ix (loc_of c_1)) (tank_of c_2) c_3; have z0 : (414 : Int32).toInt = 414 := (by decide); have z1 : (32 : Int32).toInt = 32 := (by decide); (try have z3 := gI_mul (x := 32) (y := p0) (by (try rw [z1]); (try rw [z2]); omega) (by (try rw [z1]); (try rw [z2]); omega)); (try rw [z1, z2] at z3); (try rw [z1] at z3); (try rw [z2] at z3); (try have z5 := gI_add (x := (32 * p0)) (y := p1) (by omega) (by omega)); (try have z6 := gI_add (x := 414) (y := ((32 * p0) + p1)) (by omega) (by omega)); (try rw [vp_in_iff]); omega) dX7_moveNext_145 ?_
          refine lv_sipush (v := 4095) hx hb dX7_moveNext_146 (by decide) ?_
          refine lv_iand hx hb dX7_moveNext_149 ?_
          refine lv_iload_n hx hb dX7_moveNext_150 rfl (lv_at hl 8 rfl) ?_
          refine lv_bipush (v := 12) hx hb dX7_moveNext_151 (by decide) ?_
          refine lv_ishl hx hb dX7_moveNext_153 ?_
          refine lv_ior hx hb dX7_moveNext_154 ?_
          refine lv_iload hx hb dX7_moveNext_155 (lv_at hl 3 rfl) ?_
          refine lv_bipush (v := 15) hx hb dX7_moveNext_157 (by decide) ?_
          refine lv_ishl hx hb dX7_moveNext_159 ?_
          refine lv_ior hx hb dX7_moveNext_160 ?_
          refine va_iast hx hb hK hP hD hS 1 0 rfl rfl (by have qc_1 := loc_of c_1; have qc_2 := tank_of c_2; have qc_3 := bestFree_rng (loc_ix (loc_of c_1)) (tank_of c_2) c_3; have z0 : (414 : Int32).toInt = 414 := (by decide); have z1 : (32 : Int32).toInt = 32 := (by decide); (try have z3 := gI_mul (x := 32) (y := p0) (by (try rw [z1]); (try rw [z2]); omega) (by (try rw [z1]); (try rw [z2]); omega)); (try rw [z1, z2] at z3); (try rw [z1] at z3); (try rw [z2] at z3); (try have z5 := gI_add (x := (32 * p0)) (y := p1) (by omega) (by omega)); (try have z6 := gI_add (x := 414) (y := ((32 * p0) + p1)) (by omega) (by omega)); (try rw [vp_in_iff]); omega) dX7_moveNext_161 (fun H locs hP hD hS => ?_)
          replace hP : va_P G.1 vwCl [(m0, .inr (10, [.int 0, .ref m1, .ref m2, .ref m3, .int hf, .int hs, .ref m6, .int len, .int ec, .int ep, .int pos, .int bg, .int bad, .ref m13, .ref m14, .int plc, .int sta, .ref m17, .ref m18, .ref m19, .int shm])), (m1, .inl (G.2.1.1, 670, .inl (upd (upd (upd w (Int32.toNatClampNeg (414 + (f_X7_nextOf (w (Int32.toNatClampNeg (414 + ((32 * p0) + p1))))))) 0) (Int32.toNatClampNeg (414 + ((32 * p2) + (f_X7_bestFree w ((32 * p0) + p1) p2)))) (w (Int32.toNatClampNeg (414 + (f_X7_nextOf (w (Int32.toNatClampNeg (414 + ((32 * p0) + p1))))))))) (Int32.toNatClampNeg (414 + ((32 * p0) + p1))) (((((upd (upd w (Int32.toNatClampNeg (414 + (f_X7_nextOf (w (Int32.toNatClampNeg (414 + ((32 * p0) + p1))))))) 0) (Int32.toNatClampNeg (414 + ((32 * p2) + (f_X7_bestFree w ((32 * p0) + p1) p2)))) (w (Int32.toNatClampNeg (414 + (f_X7_nextOf (w (Int32.toNatClampNeg (414 + ((32 * p0) + p1))))))))) (Int32.toNatClampNeg (414 + ((32 * p0) + p1)))) &&& 4095) ||| ((p2 <<< ((12 : Int32) &&& 31)) : Int32)) ||| (((f_X7_bestFree w ((32 * p0) + p1) p2) <<< ((15 : Int32) &&& 31)) : Int32)))))] H := hP
          replace hD : va_D A [(m0, .inr (10, [.int 0, .ref m1, .ref m2, .ref m3, .int hf, .int hs, .ref m6, .int len, .int ec, .int ep, .int pos, .int bg, .int bad, .ref m13, .ref m14, .int plc, .int sta, .ref m17, .ref m18, .ref m19, .int shm])), (m1, .inl (G.2.1.1, 670, .inl (upd (upd (upd w (Int32.toNatClampNeg (414 + (f_X7_nextOf (w (Int32.toNatClampNeg (414 + ((32 * p0) + p1))))))) 0) (Int32.toNatClampNeg (414 + ((32 * p2) + (f_X7_bestFree w ((32 * p0) + p1) p2)))) (w (Int32.toNatClampNeg (414 + (f_X7_nextOf (w (Int32.toNatClampNeg (414 + ((32 * p0) + p1))))))))) (Int32.toNatClampNeg (414 + ((32 * p0) + p1))) (((((upd (upd w (Int32.toNatClampNeg (414 + (f_X7_nextOf (w (Int32.toNatClampNeg (414 + ((32 * p0) + p1))))))) 0) (Int32.toNatClampNeg (414 + ((32 * p2) + (f_X7_bestFree w ((32 * p0) + p1) p2)))) (w (Int32.toNatClampNeg (414 + (f_X7_nextOf (w (Int32.toNatClampNeg (414 + ((32 * p0) + p1))))))))) (Int32.toNatClampNeg (414 + ((32 * p0) + p1)))) &&& 4095) ||| ((p2 <<< ((12 : Int32) &&& 31)) : Int32)) ||| (((f_X7_bestFree w ((32 * p0) + p1) p2) <<< ((15 : Int32) &&& 31)) : Int32)))))] := hD
          refine lv_iload hx hb dX7_moveNext_162 (lv_at hl 3 rfl) ?_
          have ef : (f_X7_moveNext w p0 p1 p2) = ((f_X7_bestFree w ((32 * p0) + p1) p2), 0, (upd (upd (upd w (Int32.toNatClampNeg (414 + (f_X7_nextOf (w (Int32.toNatClampNeg (414 + ((32 * p0) + p1))))))) 0) (Int32.toNatClampNeg (414 + ((32 * p2) + (f_X7_bestFree w ((32 * p0) + p1) p2)))) (w (Int32.toNatClampNeg (414 + (f_X7_nextOf (w (Int32.toNatClampNeg (414 + ((32 * p0) + p1))))))))) (Int32.toNatClampNeg (414 + ((32 * p0) + p1))) (((((upd (upd w (Int32.toNatClampNeg (414 + (f_X7_nextOf (w (Int32.toNatClampNeg (414 + ((32 * p0) + p1))))))) 0) (Int32.toNatClampNeg (414 + ((32 * p2) + (f_X7_bestFree w ((32 * p0) + p1) p2)))) (w (Int32.toNatClampNeg (414 + (f_X7_nextOf (w (Int32.toNatClampNeg (414 + ((32 * p0) + p1))))))))) (Int32.toNatClampNeg (414 + ((32 * p0) + p1)))) &&& 4095) ||| ((p2 <<< ((12 : Int32) &&& 31)) : Int32)) ||| (((f_X7_bestFree w ((32 * p0) + p1) p2) <<< ((15 : Int32) &&& 31)) : Int32)))) := ((if_neg c_1).trans ((if_neg c_2).trans ((if_neg c_3).trans (if_neg c_4))))
          exact gRetI F hr hlocks hK hP hD hS (by rw [ef]) (by rw [ef]) (Nat.le_of_ble_eq_true rfl) (Nat.le_of_ble_eq_true rfl) dX7_moveNext_164
        · skip
          refine lv_aload_n hx hb dX7_moveNext_72 rfl (lv_at hl 3 rfl) ?_
          refine lv_iconst (v := 2) hx hb dX7_moveNext_73 (by decide) ?_
          refine gV (As := [.int 2]) (rest := []) (wr := [(m1, .inl (G.2.1.1, 670, .inl w))]) (ws' := [(m0, .inr (10, [.int ((f_X7_fails 2).2), .ref m1, .ref m2, .ref m3, .int hf, .int hs, .ref m6, .int len, .int ec, .int ep, .int pos, .int bg, .int bad, .ref m13, .ref m14, .int plc, .int sta, .ref m17, .ref m18, .ref m19, .int shm])), (m1, .inl (G.2.1.1, 670, .inl w))]) F (c_X7_fails l G m0 m1 m2 m3 m6 m13 m14 m17 m18 m19 0 hf hs len ec ep pos bg bad plc sta shm 2) okV_X7_fails k_ml_X7_98 rfl rfl ⟨Nat.le_of_ble_eq_true rfl, Nat.le_of_ble_eq_true rfl⟩ hN hK hP hD hS hA [0] [1] [1, 0] (by decide) rfl rfl (by decide) (by decide) (by decide) rfl (q0 := 0) rfl rfl rfl rfl hl.1 (Nat.le_of_ble_eq_true rfl) dX7_moveNext_74 ⟨Nat.le_refl _, Nat.le_refl _⟩ (fun H locs hP hD hS => ?_)
          have ef : (f_X7_moveNext w p0 p1 p2) = ((f_X7_fails 2).1, (f_X7_fails 2).2, w) := ((if_neg c_1).trans ((if_neg c_2).trans ((if_neg c_3).trans (if_pos c_4))))
          exact gRetI F hr hlocks hK hP hD hS (by rw [ef]) (by rw [ef]) (Nat.le_of_ble_eq_true rfl) (Nat.le_of_ble_eq_true rfl) dX7_moveNext_77
    · skip
      refine lv_aload_n hx hb dX7_moveNext_20 rfl (lv_at hl 0 rfl) ?_
      refine lv_iconst (v := 1) hx hb dX7_moveNext_21 (by decide) ?_
      refine gV (As := [.int 1]) (rest := []) (wr := [(m1, .inl (G.2.1.1, 670, .inl w))]) (ws' := [(m0, .inr (10, [.int ((f_X7_fails 1).2), .ref m1, .ref m2, .ref m3, .int hf, .int hs, .ref m6, .int len, .int ec, .int ep, .int pos, .int bg, .int bad, .ref m13, .ref m14, .int plc, .int sta, .ref m17, .ref m18, .ref m19, .int shm])), (m1, .inl (G.2.1.1, 670, .inl w))]) F (c_X7_fails l G m0 m1 m2 m3 m6 m13 m14 m17 m18 m19 0 hf hs len ec ep pos bg bad plc sta shm 1) okV_X7_fails k_ml_X7_98 rfl rfl ⟨Nat.le_of_ble_eq_true rfl, Nat.le_of_ble_eq_true rfl⟩ hN hK hP hD hS hA [0] [1] [1, 0] (by decide) rfl rfl (by decide) (by decide) (by decide) rfl (q0 := 0) rfl rfl rfl rfl hl.1 (Nat.le_of_ble_eq_true rfl) dX7_moveNext_22 ⟨Nat.le_refl _, Nat.le_refl _⟩ (fun H locs hP hD hS => ?_)
      have ef : (f_X7_moveNext w p0 p1 p2) = ((f_X7_fails 1).1, (f_X7_fails 1).2, w) := ((if_neg c_1).trans (if_pos c_2))
      exact gRetI F hr hlocks hK hP hD hS (by rw [ef]) (by rw [ef]) (Nat.le_of_ble_eq_true rfl) (Nat.le_of_ble_eq_true rfl) dX7_moveNext_25
theorem okV_X7_moveNext : gOkV yX7_moveNext cX7_moveNext 9 (some .int) 3 := ⟨⟨k_im_X7_moveNext, k_se_X7_moveNext, k_in_X7, k_cd_X7_moveNext⟩, by decide, by decide, by decide +kernel⟩
def wl_X7_pathTime (w : Nat → Int32) (p1 : Int32) : Nat → Nat → Int32 → Int32 → Int32 → Int32 × Int32
  | 0, _, x4, x5, x6 =>
    ((x5 - p1), 0)
  | n + 1, k, x4, x5, x6 =>
    if x6 = 0 then
      ((x5 - p1), 0)
    else
      if ((w (Int32.toNatClampNeg (414 + x4))) &&& 15) = 0 then
        wl_X7_pathTime w p1 n (k + 1) (f_X7_nextOf (w (Int32.toNatClampNeg (414 + x4)))) (f_X7_doneAt (w (Int32.toNatClampNeg (414 + x4))) (f_X7_until x5 (x4 % 32))) 0
      else
        wl_X7_pathTime w p1 n (k + 1) (f_X7_nextOf (w (Int32.toNatClampNeg (414 + x4)))) (f_X7_doneAt (w (Int32.toNatClampNeg (414 + x4))) (f_X7_until x5 (x4 % 32))) 1
def f_X7_pathTime (w : Nat → Int32) (p0 : Int32) (p1 : Int32) (p2 : Int32) : Int32 × Int32 :=
  if (f_X7_isLocation p0 p1) = 0 then
    (0, 1)
  else
    if (f_X7_in (Int32.toInt64 p2) 1 200) = 0 then
      (0, 2)
    else
      (wl_X7_pathTime w p1 p2.toNatClampNeg 0 ((32 * p0) + p1) p1 1)
set_option maxRecDepth 100000 in
set_option maxHeartbeats 4000000 in
theorem c_X7_pathTime (l : Launch) (G : gG) (m0 : Nat) (m1 : Nat) (m2 : Nat) (m3 : Nat) (m6 : Nat) (m13 : Nat) (m14 : Nat) (m17 : Nat) (m18 : Nat) (m19 : Nat) (rz : Int32) (hf : Int32) (hs : Int32) (len : Int32) (ec : Int32) (ep : Int32) (pos : Int32) (bg : Int32) (bad : Int32) (plc : Int32) (sta : Int32) (shm : Int32) (w : Nat → Int32) (p0 : Int32) (p1 : Int32) (p2 : Int32) : gM l G yX7_pathTime cX7_pathTime 9 (some .int) { frames := 3, cells := 0, slots := 0, locals := 66 } [.ref m0, .int p0, .int p1, .int p2] [(m0, .inr (10, [.int rz, .ref m1, .ref m2, .ref m3, .int hf, .int hs, .ref m6, .int len, .int ec, .int ep, .int pos, .int bg, .int bad, .ref m13, .ref m14, .int plc, .int sta, .ref m17, .ref m18, .ref m19, .int shm])), (m1, .inl (G.2.1.1, 670, .inl w))] (some (.int ((f_X7_pathTime w p0 p1 p2).1))) [(m0, .inr (10, [.int ((f_X7_pathTime w p0 p1 p2).2), .ref m1, .ref m2, .ref m3, .int hf, .int hs, .ref m6, .int len, .int ec, .int ep, .int pos, .int bg, .int bad, .ref m13, .ref m14, .int plc, .int sta, .ref m17, .ref m18, .ref m19, .int shm])), (m1, .inl (G.2.1.1, 670, .inl w))] 0 0 := by
  refine gBegin (by decide +kernel) (Nat.le_of_ble_eq_true rfl) (fun p e s m args below meth c A F hr hlocks hname hN hK hP hD hA hS ls hl => ?_)
  obtain ⟨hx, hb, hml, hown, hts⟩ := id F
  replace hP : va_P G.1 vwCl [(m0, .inr (10, [.int rz, .ref m1, .ref m2, .ref m3, .int hf, .int hs, .ref m6, .int len, .int ec, .int ep, .int pos, .int bg, .int bad, .ref m13, .ref m14, .int plc, .int sta, .ref m17, .ref m18, .ref m19, .int shm])), (m1, .inl (G.2.1.1, 670, .inl w))] s.heap := hP
  replace hl : lv_has ls 9 [(0, .ref m0), (1, .int p0), (2, .int p1), (3, .int p2)] := hl
  refine lv_aload_n hx hb dX7_pathTime_0 rfl (lv_at hl 0 rfl) ?_
  refine lv_iload_n hx hb dX7_pathTime_1 rfl (lv_at hl 1 rfl) ?_
  refine lv_iload_n hx hb dX7_pathTime_2 rfl (lv_at hl 2 rfl) ?_
  refine gS (As := [.int p0, .int p1]) (rest := [.ref m0]) (wr := [(m0, .inr (10, [.int rz, .ref m1, .ref m2, .ref m3, .int hf, .int hs, .ref m6, .int len, .int ec, .int ep, .int pos, .int bg, .int bad, .ref m13, .ref m14, .int plc, .int sta, .ref m17, .ref m18, .ref m19, .int shm])), (m1, .inl (G.2.1.1, 670, .inl w))]) (ws' := [(m0, .inr (10, [.int rz, .ref m1, .ref m2, .ref m3, .int hf, .int hs, .ref m6, .int len, .int ec, .int ep, .int pos, .int bg, .int bad, .ref m13, .ref m14, .int plc, .int sta, .ref m17, .ref m18, .ref m19, .int shm])), (m1, .inl (G.2.1.1, 670, .inl w))]) F (c_X7_isLocation l G p0 p1) okS_X7_isLocation k_ml_X7_193 rfl rfl ⟨Nat.le_of_ble_eq_true rfl, Nat.le_of_ble_eq_true rfl⟩ hN hK hP hD hS hA [] [0, 1] [0, 1] (by decide) rfl rfl (by decide) (by decide) (by decide) rfl rfl rfl hl.1 (Nat.le_of_ble_eq_true rfl) dX7_pathTime_3 ⟨Nat.le_refl _, Nat.le_refl _⟩ (fun H locs hP hD hS => ?_)
  refine lv_if_ne (tgt := 13) hx hb dX7_pathTime_6 (by decide) (fun c_1 => ?_) (fun c_1 => ?_)
  · skip
    refine lv_iload_n hx hb dX7_pathTime_13 rfl (lv_at hl 3 rfl) ?_
    refine lv_i2l (v := (Int32.toInt64 p2)) hx hb dX7_pathTime_14 rfl ?_
    refine lv_lconst (v := 1) hx hb dX7_pathTime_15 (by decide) ?_
    refine lv_ldc2 (v := 200) hx hb hown (hts _ k_lc_X7_326) dX7_pathTime_16 ?_
    refine gS (As := [.long (Int32.toInt64 p2), .long 1, .long 200]) (rest := [.ref m0]) (wr := [(m0, .inr (10, [.int rz, .ref m1, .ref m2, .ref m3, .int hf, .int hs, .ref m6, .int len, .int ec, .int ep, .int pos, .int bg, .int bad, .ref m13, .ref m14, .int plc, .int sta, .ref m17, .ref m18, .ref m19, .int shm])), (m1, .inl (G.2.1.1, 670, .inl w))]) (ws' := [(m0, .inr (10, [.int rz, .ref m1, .ref m2, .ref m3, .int hf, .int hs, .ref m6, .int len, .int ec, .int ep, .int pos, .int bg, .int bad, .ref m13, .ref m14, .int plc, .int sta, .ref m17, .ref m18, .ref m19, .int shm])), (m1, .inl (G.2.1.1, 670, .inl w))]) F (c_X7_in l G (Int32.toInt64 p2) 1 200) okS_X7_in k_ml_X7_81 rfl rfl ⟨Nat.le_of_ble_eq_true rfl, Nat.le_of_ble_eq_true rfl⟩ hN hK hP hD hS hA [] [0, 1] [0, 1] (by decide) rfl rfl (by decide) (by decide) (by decide) rfl rfl rfl hl.1 (Nat.le_of_ble_eq_true rfl) dX7_pathTime_19 ⟨Nat.le_refl _, Nat.le_refl _⟩ (fun H locs hP hD hS => ?_)
    refine lv_if_eq (tgt := 29) hx hb dX7_pathTime_22 (by decide) (fun c_2 => ?_) (fun c_2 => ?_)
    · skip
      refine lv_iconst (v := 2) hx hb dX7_pathTime_29 (by decide) ?_
      refine va_put (D := G.1) (ci := 10) (v := .int 2) (ty := .int) (C := RX7) (T := TX7) (N := 21) hx hb hts in_X7 tyX7 tyX7_ok nmX7 hown hK hP hD hS 0 rfl rfl 0 (by decide) (hts _ k_fl_X7_76) (fun _ h9 => h9) rfl (by decide +kernel) rfl rfl (Nat.le_of_ble_eq_true rfl) dX7_pathTime_30 (fun H locs hP hD hS => ?_)
      replace hP : va_P G.1 vwCl [(m0, .inr (10, [.int 2, .ref m1, .ref m2, .ref m3, .int hf, .int hs, .ref m6, .int len, .int ec, .int ep, .int pos, .int bg, .int bad, .ref m13, .ref m14, .int plc, .int sta, .ref m17, .ref m18, .ref m19, .int shm])), (m1, .inl (G.2.1.1, 670, .inl w))] H := hP
      replace hD : va_D A [(m0, .inr (10, [.int 2, .ref m1, .ref m2, .ref m3, .int hf, .int hs, .ref m6, .int len, .int ec, .int ep, .int pos, .int bg, .int bad, .ref m13, .ref m14, .int plc, .int sta, .ref m17, .ref m18, .ref m19, .int shm])), (m1, .inl (G.2.1.1, 670, .inl w))] := hD
      refine lv_aload_n hx hb dX7_pathTime_33 rfl (lv_at hl 0 rfl) ?_
      refine va_get (D := G.1) (ci := 10) (v := .int 2) (C := RX7) (T := TX7) (N := 21) hx hb hts in_X7 hown hK hP 0 rfl rfl 0 (by decide) (hts _ k_fl_X7_76) (fun _ h9 => h9) rfl dX7_pathTime_34 ?_
      refine lv_if_le (tgt := 42) hx hb dX7_pathTime_37 (by decide) (fun c_3 => ?_) (fun c_3 => ?_)
      · exact absurd c_3 (by decide)
      · skip
        refine lv_iconst (v := 0) hx hb dX7_pathTime_40 (by decide) ?_
        have ef : (f_X7_pathTime w p0 p1 p2) = (0, 2) := ((if_neg c_1).trans (if_pos c_2))
        exact gRetI F hr hlocks hK hP hD hS (by rw [ef]) (by rw [ef]) (Nat.le_of_ble_eq_true rfl) (Nat.le_of_ble_eq_true rfl) dX7_pathTime_41
    · skip
      refine lv_iconst (v := 0) hx hb dX7_pathTime_25 (by decide) ?_
      refine lv_goto (tgt := 30) hx hb dX7_pathTime_26 (by decide) ?_
      refine va_put (D := G.1) (ci := 10) (v := .int 0) (ty := .int) (C := RX7) (T := TX7) (N := 21) hx hb hts in_X7 tyX7 tyX7_ok nmX7 hown hK hP hD hS 0 rfl rfl 0 (by decide) (hts _ k_fl_X7_76) (fun _ h9 => h9) rfl (by decide +kernel) rfl rfl (Nat.le_of_ble_eq_true rfl) dX7_pathTime_30 (fun H locs hP hD hS => ?_)
      replace hP : va_P G.1 vwCl [(m0, .inr (10, [.int 0, .ref m1, .ref m2, .ref m3, .int hf, .int hs, .ref m6, .int len, .int ec, .int ep, .int pos, .int bg, .int bad, .ref m13, .ref m14, .int plc, .int sta, .ref m17, .ref m18, .ref m19, .int shm])), (m1, .inl (G.2.1.1, 670, .inl w))] H := hP
      replace hD : va_D A [(m0, .inr (10, [.int 0, .ref m1, .ref m2, .ref m3, .int hf, .int hs, .ref m6, .int len, .int ec, .int ep, .int pos, .int bg, .int bad, .ref m13, .ref m14, .int plc, .int sta, .ref m17, .ref m18, .ref m19, .int shm])), (m1, .inl (G.2.1.1, 670, .inl w))] := hD
      refine lv_aload_n hx hb dX7_pathTime_33 rfl (lv_at hl 0 rfl) ?_
      refine va_get (D := G.1) (ci := 10) (v := .int 0) (C := RX7) (T := TX7) (N := 21) hx hb hts in_X7 hown hK hP 0 rfl rfl 0 (by decide) (hts _ k_fl_X7_76) (fun _ h9 => h9) rfl dX7_pathTime_34 ?_
      refine lv_if_le (tgt := 42) hx hb dX7_pathTime_37 (by decide) (fun c_4 => ?_) (fun c_4 => ?_)
      · skip
        refine lv_bipush (v := 32) hx hb dX7_pathTime_42 (by decide) ?_
        refine lv_iload_n hx hb dX7_pathTime_44 rfl (lv_at hl 1 rfl) ?_
        refine lv_imul hx hb dX7_pathTime_45 ?_
        refine lv_iload_n hx hb dX7_pathTime_46 rfl (lv_at hl 2 rfl) ?_
        refine lv_iadd hx hb dX7_pathTime_47 ?_
        refine lv_istore (lv' := [(4, .int ((32 * p0) + p1)), (0, .ref m0), (1, .int p0), (2, .int p1), (3, .int p2)]) hx hb dX7_pathTime_48 hl (by decide) rfl (fun ls hl => ?_)
        refine lv_iload_n hx hb dX7_pathTime_50 rfl (lv_at hl 3 rfl) ?_
        refine lv_istore (lv' := [(5, .int p1), (4, .int ((32 * p0) + p1)), (0, .ref m0), (1, .int p0), (2, .int p1), (3, .int p2)]) hx hb dX7_pathTime_51 hl (by decide) rfl (fun ls hl => ?_)
        refine lv_iconst (v := 1) hx hb dX7_pathTime_53 (by decide) ?_
        refine lv_istore (lv' := [(6, .int 1), (5, .int p1), (4, .int ((32 * p0) + p1)), (0, .ref m0), (1, .int p0), (2, .int p1), (3, .int p2)]) hx hb dX7_pathTime_54 hl (by decide) rfl (fun ls hl => ?_)
        refine lv_iconst (v := 0) hx hb dX7_pathTime_56 (by decide) ?_
        refine lv_istore (lv' := [(7, .int 0), (6, .int 1), (5, .int p1), (4, .int ((32 * p0) + p1)), (0, .ref m0), (1, .int p0), (2, .int p1), (3, .int p2)]) hx hb dX7_pathTime_57 hl (by decide) rfl (fun ls hl => ?_)
        have loop_59 : ∀ (fu k : Nat) (x4 : Int32) (x5 : Int32) (x6 : Int32), k + fu = p2.toNatClampNeg → (0 ≤ x4.toInt ∧ x4.toInt < 256) → (f_X7_pathTime w p0 p1 p2) = wl_X7_pathTime w p1 fu k x4 x5 x6 → ∀ (H : Heap) (locs : List Loc), va_P G.1 vwCl [(m0, .inr (10, [.int 0, .ref m1, .ref m2, .ref m3, .int hf, .int hs, .ref m6, .int len, .int ec, .int ep, .int pos, .int bg, .int bad, .ref m13, .ref m14, .int plc, .int sta, .ref m17, .ref m18, .ref m19, .int shm])), (m1, .inl (G.2.1.1, 670, .inl w))] H → va_D A [(m0, .inr (10, [.int 0, .ref m1, .ref m2, .ref m3, .int hf, .int hs, .ref m6, .int len, .int ec, .int ep, .int pos, .int bg, .int bad, .ref m13, .ref m14, .int plc, .int sta, .ref m17, .ref m18, .ref m19, .int shm])), (m1, .inl (G.2.1.1, 670, .inl w))] → va_S A s.heap H locs → ∀ ls : Array Slot, lv_has ls 9 [(7, .int (nI k)), (6, .int x6), (5, .int x5), (4, .int x4), (0, .ref m0), (1, .int p0), (2, .int p1), (3, .int p2)] → W p l e { frames := 3, cells := 0, slots := 0, locals := 66 } s m args below meth c H locs 0 0 (MQ below (gQ G (some (.int ((f_X7_pathTime w p0 p1 p2).1))) [(m0, .inr (10, [.int ((f_X7_pathTime w p0 p1 p2).2), .ref m1, .ref m2, .ref m3, .int hf, .int hs, .ref m6, .int len, .int ec, .int ep, .int pos, .int bg, .int bad, .ref m13, .ref m14, .int plc, .int sta, .ref m17, .ref m18, .ref m19, .int shm])), (m1, .inl (G.2.1.1, 670, .inl w))] A) args s 0 0 A) (F0 m 59 ls []) := by
          intro fu
          induction fu with
          | zero =>
            intro k x4 x5 x6 hk hI hO H locs hP hD hS ls hl
            have ek : p2.toNatClampNeg = k := by omega
            subst ek
            refine lv_iload hx hb dX7_pathTime_59 (lv_at hl 0 rfl) ?_
            refine lv_iload_n hx hb dX7_pathTime_61 rfl (lv_at hl 7 rfl) ?_
            refine lv_icmp_ge (tgt := 128) hx hb dX7_pathTime_62 (by decide) (fun c_5 => ?_) (fun c_5 => ?_)
            · skip
              refine lv_iload hx hb dX7_pathTime_128 (lv_at hl 2 rfl) ?_
              refine lv_iload_n hx hb dX7_pathTime_130 rfl (lv_at hl 6 rfl) ?_
              refine lv_isub hx hb dX7_pathTime_131 ?_
              have ef : (f_X7_pathTime w p0 p1 p2) = ((x5 - p1), 0) := hO
              exact gRetI F hr hlocks hK hP hD hS (by rw [ef]) (by rw [ef]) (Nat.le_of_ble_eq_true rfl) (Nat.le_of_ble_eq_true rfl) dX7_pathTime_132
            · exact absurd (cntEq (by have q := in_ofI (a := 1) (b := 200) c_2 (by decide) (by decide); omega)) c_5
          | succ fu ih =>
            intro k x4 x5 x6 hk hI hO H locs hP hD hS ls hl
            have hlt_k : k < p2.toNatClampNeg := by omega
            refine lv_iload hx hb dX7_pathTime_59 (lv_at hl 0 rfl) ?_
            refine lv_iload_n hx hb dX7_pathTime_61 rfl (lv_at hl 7 rfl) ?_
            refine lv_icmp_ge (tgt := 128) hx hb dX7_pathTime_62 (by decide) (fun c_6 => ?_) (fun c_6 => ?_)
            · exact absurd c_6 (cntLt hlt_k)
            · skip
              refine lv_iload hx hb dX7_pathTime_65 (lv_at hl 1 rfl) ?_
              refine lv_if_eq (tgt := 128) hx hb dX7_pathTime_67 (by decide) (fun c_7 => ?_) (fun c_7 => ?_)
              · skip
                refine lv_iload hx hb dX7_pathTime_128 (lv_at hl 2 rfl) ?_
                refine lv_iload_n hx hb dX7_pathTime_130 rfl (lv_at hl 6 rfl) ?_
                refine lv_isub hx hb dX7_pathTime_131 ?_
                have ef : (f_X7_pathTime w p0 p1 p2) = ((x5 - p1), 0) := (hO.trans (if_pos c_7))
                exact gRetI F hr hlocks hK hP hD hS (by rw [ef]) (by rw [ef]) (Nat.le_of_ble_eq_true rfl) (Nat.le_of_ble_eq_true rfl) dX7_pathTime_132
              · skip
                refine lv_aload_n hx hb dX7_pathTime_70 rfl (lv_at hl 4 rfl) ?_
                refine va_get (D := G.1) (ci := 10) (v := .ref m1) (C := RX7) (T := TX7) (N := 21) hx hb hts in_X7 hown hK hP 0 rfl rfl 1 (by decide) (hts _ k_fl_X7_7) (fun _ h9 => h9) rfl dX7_pathTime_71 ?_
                refine lv_sipush (v := 414) hx hb dX7_pathTime_74 (by decide) ?_
                refine lv_iload hx hb dX7_pathTime_77 (lv_at hl 3 rfl) ?_
                refine lv_iadd hx hb dX7_pathTime_79 ?_
                refine va_iald hx hb hK hP 1 0 rfl rfl (by have qc_1 := loc_of c_1; have qc_2 := in_ofI (a := 1) (b := 200) c_2 (by decide) (by decide); have z0 : (414 : Int32).toInt = 414 := (by decide); (try have z2 := gI_add (x := 414) (y := x4) (by omega) (by omega)); (try rw [vp_in_iff]); omega) dX7_pathTime_80 ?_
                refine lv_istore (lv' := [(8, .int (w (Int32.toNatClampNeg (414 + x4)))), (7, .int (nI k)), (6, .int x6), (5, .int x5), (4, .int x4), (0, .ref m0), (1, .int p0), (2, .int p1), (3, .int p2)]) hx hb dX7_pathTime_81 hl (by decide) rfl (fun ls hl => ?_)
                refine lv_iload hx hb dX7_pathTime_83 (lv_at hl 0 rfl) ?_
                refine lv_iload hx hb dX7_pathTime_85 (lv_at hl 3 rfl) ?_
                refine lv_iload hx hb dX7_pathTime_87 (lv_at hl 4 rfl) ?_
                refine lv_bipush (v := 32) hx hb dX7_pathTime_89 (by decide) ?_
                refine gIrem hx hb dX7_pathTime_91 (by decide) ?_
                refine gS (As := [.int x5, .int (x4 % 32)]) (rest := [.int (w (Int32.toNatClampNeg (414 + x4)))]) (wr := [(m0, .inr (10, [.int 0, .ref m1, .ref m2, .ref m3, .int hf, .int hs, .ref m6, .int len, .int ec, .int ep, .int pos, .int bg, .int bad, .ref m13, .ref m14, .int plc, .int sta, .ref m17, .ref m18, .ref m19, .int shm])), (m1, .inl (G.2.1.1, 670, .inl w))]) (ws' := [(m0, .inr (10, [.int 0, .ref m1, .ref m2, .ref m3, .int hf, .int hs, .ref m6, .int len, .int ec, .int ep, .int pos, .int bg, .int bad, .ref m13, .ref m14, .int plc, .int sta, .ref m17, .ref m18, .ref m19, .int shm])), (m1, .inl (G.2.1.1, 670, .inl w))]) F (c_X7_until l G x5 (x4 % 32)) okS_X7_until k_ml_X7_317 rfl rfl ⟨Nat.le_of_ble_eq_true rfl, Nat.le_of_ble_eq_true rfl⟩ hN hK hP hD hS hA [] [0, 1] [0, 1] (by decide) rfl rfl (by decide) (by decide) (by decide) rfl rfl rfl hl.1 (Nat.le_of_ble_eq_true rfl) dX7_pathTime_92 ⟨Nat.le_refl _, Nat.le_refl _⟩ (fun H locs hP hD hS => ?_)
                refine gS (As := [.int (w (Int32.toNatClampNeg (414 + x4))), .int (f_X7_until x5 (x4 % 32))]) (rest := []) (wr := [(m0, .inr (10, [.int 0, .ref m1, .ref m2, .ref m3, .int hf, .int hs, .ref m6, .int len, .int ec, .int ep, .int pos, .int bg, .int bad, .ref m13, .ref m14, .int plc, .int sta, .ref m17, .ref m18, .ref m19, .int shm])), (m1, .inl (G.2.1.1, 670, .inl w))]) (ws' := [(m0, .inr (10, [.int 0, .ref m1, .ref m2, .ref m3, .int hf, .int hs, .ref m6, .int len, .int ec, .int ep, .int pos, .int bg, .int bad, .ref m13, .ref m14, .int plc, .int sta, .ref m17, .ref m18, .ref m19, .int shm])), (m1, .inl (G.2.1.1, 670, .inl w))]) F (c_X7_doneAt l G (w (Int32.toNatClampNeg (414 + x4))) (f_X7_until x5 (x4 % 32))) okS_X7_doneAt k_ml_X7_320 rfl rfl ⟨Nat.le_of_ble_eq_true rfl, Nat.le_of_ble_eq_true rfl⟩ hN hK hP hD hS hA [] [0, 1] [0, 1] (by decide) rfl rfl (by decide) (by decide) (by decide) rfl rfl rfl hl.1 (Nat.le_of_ble_eq_true rfl) dX7_pathTime_95 ⟨Nat.le_refl _, Nat.le_refl _⟩ (fun H locs hP hD hS => ?_)
                refine lv_istore (lv' := [(5, .int (f_X7_doneAt (w (Int32.toNatClampNeg (414 + x4))) (f_X7_until x5 (x4 % 32)))), (8, .int (w (Int32.toNatClampNeg (414 + x4)))), (7, .int (nI k)), (6, .int x6), (4, .int x4), (0, .ref m0), (1, .int p0), (2, .int p1), (3, .int p2)]) hx hb dX7_pathTime_98 hl (by decide) rfl (fun ls hl => ?_)
                refine lv_iload hx hb dX7_pathTime_100 (lv_at hl 1 rfl) ?_
                refine lv_bipush (v := 15) hx hb dX7_pathTime_102 (by decide) ?_
                refine lv_iand hx hb dX7_pathTime_104 ?_
                refine lv_if_eq (tgt := 112) hx hb dX7_pathTime_105 (by decide) (fun c_8 => ?_) (fun c_8 => ?_)
                · skip
                  refine lv_iconst (v := 0) hx hb dX7_pathTime_112 (by decide) ?_
                  refine lv_istore (lv' := [(6, .int 0), (5, .int (f_X7_doneAt (w (Int32.toNatClampNeg (414 + x4))) (f_X7_until x5 (x4 % 32)))), (8, .int (w (Int32.toNatClampNeg (414 + x4)))), (7, .int (nI k)), (4, .int x4), (0, .ref m0), (1, .int p0), (2, .int p1), (3, .int p2)]) hx hb dX7_pathTime_113 hl (by decide) rfl (fun ls hl => ?_)
                  refine lv_iload hx hb dX7_pathTime_115 (lv_at hl 2 rfl) ?_
                  refine gS (As := [.int (w (Int32.toNatClampNeg (414 + x4)))]) (rest := []) (wr := [(m0, .inr (10, [.int 0, .ref m1, .ref m2, .ref m3, .int hf, .int hs, .ref m6, .int len, .int ec, .int ep, .int pos, .int bg, .int bad, .ref m13, .ref m14, .int plc, .int sta, .ref m17, .ref m18, .ref m19, .int shm])), (m1, .inl (G.2.1.1, 670, .inl w))]) (ws' := [(m0, .inr (10, [.int 0, .ref m1, .ref m2, .ref m3, .int hf, .int hs, .ref m6, .int len, .int ec, .int ep, .int pos, .int bg, .int bad, .ref m13, .ref m14, .int plc, .int sta, .ref m17, .ref m18, .ref m19, .int shm])), (m1, .inl (G.2.1.1, 670, .inl w))]) F (c_X7_nextOf l G (w (Int32.toNatClampNeg (414 + x4)))) okS_X7_nextOf k_ml_X7_301 rfl rfl ⟨Nat.le_of_ble_eq_true rfl, Nat.le_of_ble_eq_true rfl⟩ hN hK hP hD hS hA [] [0, 1] [0, 1] (by decide) rfl rfl (by decide) (by decide) (by decide) rfl rfl rfl hl.1 (Nat.le_of_ble_eq_true rfl) dX7_pathTime_117 ⟨Nat.le_refl _, Nat.le_refl _⟩ (fun H locs hP hD hS => ?_)
                  refine lv_istore (lv' := [(4, .int (f_X7_nextOf (w (Int32.toNatClampNeg (414 + x4))))), (6, .int 0), (5, .int (f_X7_doneAt (w (Int32.toNatClampNeg (414 + x4))) (f_X7_until x5 (x4 % 32)))), (8, .int (w (Int32.toNatClampNeg (414 + x4)))), (7, .int (nI k)), (0, .ref m0), (1, .int p0), (2, .int p1), (3, .int p2)]) hx hb dX7_pathTime_120 hl (by decide) rfl (fun ls hl => ?_)
                  refine lv_iinc (v := (nI (k + 1))) (lv' := [(7, .int (nI (k + 1))), (4, .int (f_X7_nextOf (w (Int32.toNatClampNeg (414 + x4))))), (6, .int 0), (5, .int (f_X7_doneAt (w (Int32.toNatClampNeg (414 + x4))) (f_X7_until x5 (x4 % 32)))), (8, .int (w (Int32.toNatClampNeg (414 + x4)))), (0, .ref m0), (1, .int p0), (2, .int p1), (3, .int p2)]) hx hb dX7_pathTime_122 hl (k := 4) rfl (nI_1 k) (by decide) rfl (fun ls hl => ?_)
                  refine lv_goto (tgt := 59) hx hb dX7_pathTime_125 (by decide) ?_
                  exact ih (k + 1) (f_X7_nextOf (w (Int32.toNatClampNeg (414 + x4)))) (f_X7_doneAt (w (Int32.toNatClampNeg (414 + x4))) (f_X7_until x5 (x4 % 32))) 0 (by omega) (next_rng _) (hO.trans (((if_neg c_7).trans (if_pos c_8)))) _ _ hP hD hS ls (lv_sub hl [0, 2, 3, 1, 5, 6, 7, 8] rfl)
                · skip
                  refine lv_iconst (v := 1) hx hb dX7_pathTime_108 (by decide) ?_
                  refine lv_goto (tgt := 113) hx hb dX7_pathTime_109 (by decide) ?_
                  refine lv_istore (lv' := [(6, .int 1), (5, .int (f_X7_doneAt (w (Int32.toNatClampNeg (414 + x4))) (f_X7_until x5 (x4 % 32)))), (8, .int (w (Int32.toNatClampNeg (414 + x4)))), (7, .int (nI k)), (4, .int x4), (0, .ref m0), (1, .int p0), (2, .int p1), (3, .int p2)]) hx hb dX7_pathTime_113 hl (by decide) rfl (fun ls hl => ?_)
                  refine lv_iload hx hb dX7_pathTime_115 (lv_at hl 2 rfl) ?_
                  refine gS (As := [.int (w (Int32.toNatClampNeg (414 + x4)))]) (rest := []) (wr := [(m0, .inr (10, [.int 0, .ref m1, .ref m2, .ref m3, .int hf, .int hs, .ref m6, .int len, .int ec, .int ep, .int pos, .int bg, .int bad, .ref m13, .ref m14, .int plc, .int sta, .ref m17, .ref m18, .ref m19, .int shm])), (m1, .inl (G.2.1.1, 670, .inl w))]) (ws' := [(m0, .inr (10, [.int 0, .ref m1, .ref m2, .ref m3, .int hf, .int hs, .ref m6, .int len, .int ec, .int ep, .int pos, .int bg, .int bad, .ref m13, .ref m14, .int plc, .int sta, .ref m17, .ref m18, .ref m19, .int shm])), (m1, .inl (G.2.1.1, 670, .inl w))]) F (c_X7_nextOf l G (w (Int32.toNatClampNeg (414 + x4)))) okS_X7_nextOf k_ml_X7_301 rfl rfl ⟨Nat.le_of_ble_eq_true rfl, Nat.le_of_ble_eq_true rfl⟩ hN hK hP hD hS hA [] [0, 1] [0, 1] (by decide) rfl rfl (by decide) (by decide) (by decide) rfl rfl rfl hl.1 (Nat.le_of_ble_eq_true rfl) dX7_pathTime_117 ⟨Nat.le_refl _, Nat.le_refl _⟩ (fun H locs hP hD hS => ?_)
                  refine lv_istore (lv' := [(4, .int (f_X7_nextOf (w (Int32.toNatClampNeg (414 + x4))))), (6, .int 1), (5, .int (f_X7_doneAt (w (Int32.toNatClampNeg (414 + x4))) (f_X7_until x5 (x4 % 32)))), (8, .int (w (Int32.toNatClampNeg (414 + x4)))), (7, .int (nI k)), (0, .ref m0), (1, .int p0), (2, .int p1), (3, .int p2)]) hx hb dX7_pathTime_120 hl (by decide) rfl (fun ls hl => ?_)
                  refine lv_iinc (v := (nI (k + 1))) (lv' := [(7, .int (nI (k + 1))), (4, .int (f_X7_nextOf (w (Int32.toNatClampNeg (414 + x4))))), (6, .int 1), (5, .int (f_X7_doneAt (w (Int32.toNatClampNeg (414 + x4))) (f_X7_until x5 (x4 % 32)))), (8, .int (w (Int32.toNatClampNeg (414 + x4)))), (0, .ref m0), (1, .int p0), (2, .int p1), (3, .int p2)]) hx hb dX7_pathTime_122 hl (k := 4) rfl (nI_1 k) (by decide) rfl (fun ls hl => ?_)
                  refine lv_goto (tgt := 59) hx hb dX7_pathTime_125 (by decide) ?_
                  exact ih (k + 1) (f_X7_nextOf (w (Int32.toNatClampNeg (414 + x4)))) (f_X7_doneAt (w (Int32.toNatClampNeg (414 + x4))) (f_X7_until x5 (x4 % 32))) 1 (by omega) (next_rng _) (hO.trans (((if_neg c_7).trans (if_neg c_8)))) _ _ hP hD hS ls (lv_sub hl [0, 2, 3, 1, 5, 6, 7, 8] rfl)
        exact loop_59 p2.toNatClampNeg 0 ((32 * p0) + p1) p1 1 (by omega) (loc_ix (loc_of c_1)) (((if_neg c_1).trans (if_neg c_2))) _ _ hP hD hS ls (lv_sub hl [0, 1, 2, 3, 4, 5, 6, 7] rfl)
      · exact absurd c_4 (by decide)
  · skip
    refine lv_iconst (v := 1) hx hb dX7_pathTime_9 (by decide) ?_
    refine lv_goto (tgt := 30) hx hb dX7_pathTime_10 (by decide) ?_
    refine va_put (D := G.1) (ci := 10) (v := .int 1) (ty := .int) (C := RX7) (T := TX7) (N := 21) hx hb hts in_X7 tyX7 tyX7_ok nmX7 hown hK hP hD hS 0 rfl rfl 0 (by decide) (hts _ k_fl_X7_76) (fun _ h9 => h9) rfl (by decide +kernel) rfl rfl (Nat.le_of_ble_eq_true rfl) dX7_pathTime_30 (fun H locs hP hD hS => ?_)
    replace hP : va_P G.1 vwCl [(m0, .inr (10, [.int 1, .ref m1, .ref m2, .ref m3, .int hf, .int hs, .ref m6, .int len, .int ec, .int ep, .int pos, .int bg, .int bad, .ref m13, .ref m14, .int plc, .int sta, .ref m17, .ref m18, .ref m19, .int shm])), (m1, .inl (G.2.1.1, 670, .inl w))] H := hP
    replace hD : va_D A [(m0, .inr (10, [.int 1, .ref m1, .ref m2, .ref m3, .int hf, .int hs, .ref m6, .int len, .int ec, .int ep, .int pos, .int bg, .int bad, .ref m13, .ref m14, .int plc, .int sta, .ref m17, .ref m18, .ref m19, .int shm])), (m1, .inl (G.2.1.1, 670, .inl w))] := hD
    refine lv_aload_n hx hb dX7_pathTime_33 rfl (lv_at hl 0 rfl) ?_
    refine va_get (D := G.1) (ci := 10) (v := .int 1) (C := RX7) (T := TX7) (N := 21) hx hb hts in_X7 hown hK hP 0 rfl rfl 0 (by decide) (hts _ k_fl_X7_76) (fun _ h9 => h9) rfl dX7_pathTime_34 ?_
    refine lv_if_le (tgt := 42) hx hb dX7_pathTime_37 (by decide) (fun c_9 => ?_) (fun c_9 => ?_)
    · exact absurd c_9 (by decide)
    · skip
      refine lv_iconst (v := 0) hx hb dX7_pathTime_40 (by decide) ?_
      have ef : (f_X7_pathTime w p0 p1 p2) = (0, 1) := (if_pos c_1)
      exact gRetI F hr hlocks hK hP hD hS (by rw [ef]) (by rw [ef]) (Nat.le_of_ble_eq_true rfl) (Nat.le_of_ble_eq_true rfl) dX7_pathTime_41
theorem okV_X7_pathTime : gOkV yX7_pathTime cX7_pathTime 9 (some .int) 3 := ⟨⟨k_im_X7_pathTime, k_se_X7_pathTime, k_in_X7, k_cd_X7_pathTime⟩, by decide, by decide, by decide +kernel⟩
