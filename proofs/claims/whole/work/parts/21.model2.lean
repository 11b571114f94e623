def f_X7_drops (w : Nat → Int32) (p0 : Int32) : (Nat → Int32) :=
  (upd (upd w 7 ((w 7) + ((((w (Int32.toNatClampNeg ((414 + (32 * p0)) + ((((7 * ((w 0) / 32)) + p0) % 640) / 20)))) >>> (((((7 * ((w 0) / 32)) + p0) % 640) % 20) &&& 31)) : Int32) &&& 1))) (Int32.toNatClampNeg ((414 + (32 * p0)) + ((((7 * ((w 0) / 32)) + p0) % 640) / 20))) (((upd w 7 ((w 7) + ((((w (Int32.toNatClampNeg ((414 + (32 * p0)) + ((((7 * ((w 0) / 32)) + p0) % 640) / 20)))) >>> (((((7 * ((w 0) / 32)) + p0) % 640) % 20) &&& 31)) : Int32) &&& 1))) (Int32.toNatClampNeg ((414 + (32 * p0)) + ((((7 * ((w 0) / 32)) + p0) % 640) / 20)))) &&& ((((1 : Int32) <<< (((((7 * ((w 0) / 32)) + p0) % 640) % 20) &&& 31)) : Int32) ^^^ (-1))))
set_option maxRecDepth 100000 in
set_option maxHeartbeats 4000000 in
theorem c_X7_drops (l : Launch) (G : gG) (m0 : Nat) (m1 : Nat) (m2 : Nat) (m3 : Nat) (m6 : Nat) (m13 : Nat) (m14 : Nat) (m17 : Nat) (m18 : Nat) (m19 : Nat) (rz : Int32) (hf : Int32) (hs : Int32) (len : Int32) (ec : Int32) (ep : Int32) (pos : Int32) (bg : Int32) (bad : Int32) (plc : Int32) (sta : Int32) (shm : Int32) (w : Nat → Int32) (p0 : Int32) (ht : 0 ≤ p0.toInt ∧ p0.toInt < 8) (hT : 0 ≤ (w 0).toInt ∧ (w 0).toInt < 200000000) : gM l G yX7_drops cX7_drops 4 none { frames := 0, cells := 0, slots := 0, locals := 0 } [.ref m0, .int p0] [(m0, .inr (10, [.int rz, .ref m1, .ref m2, .ref m3, .int hf, .int hs, .ref m6, .int len, .int ec, .int ep, .int pos, .int bg, .int bad, .ref m13, .ref m14, .int plc, .int sta, .ref m17, .ref m18, .ref m19, .int shm])), (m1, .inl (G.2.1.1, 670, .inl w))] none [(m0, .inr (10, [.int rz, .ref m1, .ref m2, .ref m3, .int hf, .int hs, .ref m6, .int len, .int ec, .int ep, .int pos, .int bg, .int bad, .ref m13, .ref m14, .int plc, .int sta, .ref m17, .ref m18, .ref m19, .int shm])), (m1, .inl (G.2.1.1, 670, .inl (f_X7_drops w p0)))] 0 0 := by
  refine gBegin (by decide +kernel) (Nat.le_of_ble_eq_true rfl) (fun p e s m args below meth c A F hr hlocks hname hN hK hP hD hA hS ls hl => ?_)
  obtain ⟨hx, hb, hml, hown, hts⟩ := id F
  replace hP : va_P G.1 vwCl [(m0, .inr (10, [.int rz, .ref m1, .ref m2, .ref m3, .int hf, .int hs, .ref m6, .int len, .int ec, .int ep, .int pos, .int bg, .int bad, .ref m13, .ref m14, .int plc, .int sta, .ref m17, .ref m18, .ref m19, .int shm])), (m1, .inl (G.2.1.1, 670, .inl w))] s.heap := hP
  replace hl : lv_has ls 4 [(0, .ref m0), (1, .int p0)] := hl
  refine lv_bipush (v := 7) hx hb dX7_drops_0 (by decide) ?_
  refine lv_aload_n hx hb dX7_drops_2 rfl (lv_at hl 0 rfl) ?_
  refine va_get (D := G.1) (ci := 10) (v := .ref m1) (C := RX7) (T := TX7) (N := 21) hx hb hts in_X7 hown hK hP 0 rfl rfl 1 (by decide) (hts _ k_fl_X7_7) (fun _ h9 => h9) rfl dX7_drops_3 ?_
  refine lv_iconst (v := 0) hx hb dX7_drops_6 (by decide) ?_
  refine gIald (k := 0) hx hb hK hP 1 0 rfl rfl (by decide) (gInL (by decide)) dX7_drops_7 ?_
  refine lv_bipush (v := 32) hx hb dX7_drops_8 (by decide) ?_
  refine lv_idiv hx hb dX7_drops_10 (by decide) ?_
  refine lv_imul hx hb dX7_drops_11 ?_
  refine lv_iload_n hx hb dX7_drops_12 rfl (lv_at hl 1 rfl) ?_
  refine lv_iadd hx hb dX7_drops_13 ?_
  refine lv_sipush (v := 640) hx hb dX7_drops_14 (by decide) ?_
  refine gIrem hx hb dX7_drops_17 (by decide) ?_
  refine lv_istore_n (lv' := [(2, .int (((7 * ((w 0) / 32)) + p0) % 640)), (0, .ref m0), (1, .int p0)]) hx hb dX7_drops_18 rfl hl (by decide) rfl (fun ls hl => ?_)
  refine lv_sipush (v := 414) hx hb dX7_drops_19 (by decide) ?_
  refine lv_bipush (v := 32) hx hb dX7_drops_22 (by decide) ?_
  refine lv_iload_n hx hb dX7_drops_24 rfl (lv_at hl 2 rfl) ?_
  refine lv_imul hx hb dX7_drops_25 ?_
  refine lv_iadd hx hb dX7_drops_26 ?_
  refine lv_iload_n hx hb dX7_drops_27 rfl (lv_at hl 0 rfl) ?_
  refine lv_bipush (v := 20) hx hb dX7_drops_28 (by decide) ?_
  refine lv_idiv hx hb dX7_drops_30 (by decide) ?_
  refine lv_iadd hx hb dX7_drops_31 ?_
  refine lv_istore_n (lv' := [(3, .int ((414 + (32 * p0)) + ((((7 * ((w 0) / 32)) + p0) % 640) / 20))), (2, .int (((7 * ((w 0) / 32)) + p0) % 640)), (0, .ref m0), (1, .int p0)]) hx hb dX7_drops_32 rfl hl (by decide) rfl (fun ls hl => ?_)
  refine lv_aload_n hx hb dX7_drops_33 rfl (lv_at hl 2 rfl) ?_
  refine va_get (D := G.1) (ci := 10) (v := .ref m1) (C := RX7) (T := TX7) (N := 21) hx hb hts in_X7 hown hK hP 0 rfl rfl 1 (by decide) (hts _ k_fl_X7_7) (fun _ h9 => h9) rfl dX7_drops_34 ?_
  refine lv_bipush (v := 7) hx hb dX7_drops_37 (by decide) ?_
  refine lv_dup2_11 hx hb dX7_drops_39 rfl rfl ?_
  refine gIald (k := 7) hx hb hK hP 1 0 rfl rfl (by decide) (gInL (by decide)) dX7_drops_40 ?_
  refine lv_aload_n hx hb dX7_drops_41 rfl (lv_at hl 2 rfl) ?_
  refine va_get (D := G.1) (ci := 10) (v := .ref m1) (C := RX7) (T := TX7) (N := 21) hx hb hts in_X7 hown hK hP 0 rfl rfl 1 (by decide) (hts _ k_fl_X7_7) (fun _ h9 => h9) rfl dX7_drops_42 ?_
  refine lv_iload_n hx hb dX7_drops_45 rfl (lv_at hl 0 rfl) ?_
  refine va_iald hx hb hK hP 1 0 rfl rfl (by have z0 : (414 : Int32).toInt = 414 := (by decide); have z1 : (32 : Int32).toInt = 32 := (by decide); (try have z3 := gI_mul (x := 32) (y := p0) (by (try rw [z1]); (try rw [z2]); omega) (by (try rw [z1]); (try rw [z2]); omega)); (try rw [z1, z2] at z3); (try rw [z1] at z3); (try rw [z2] at z3); (try have z4 := gI_add (x := 414) (y := (32 * p0)) (by omega) (by omega)); have z5 : (7 : Int32).toInt = 7 := (by decide); (try have z7 := gI_divL (x := (w 0)) (y := 32) (d := 32) (by omega) (by decide) (by decide)); (try have z8 := gI_mul (x := 7) (y := ((w 0) / 32)) (by (try rw [z5]); (try rw [z7]); omega) (by (try rw [z5]); (try rw [z7]); omega)); (try rw [z5, z7] at z8); (try rw [z5] at z8); (try rw [z7] at z8); (try have z9 := gI_add (x := (7 * ((w 0) / 32))) (y := p0) (by omega) (by omega)); (try have z10 := gI_modL (x := ((7 * ((w 0) / 32)) + p0)) (y := 640) (d := 640) (by omega) (by decide)); have z10b := gI_modB (x := ((7 * ((w 0) / 32)) + p0)) (y := 640) (d := 640) (by decide) (by decide); (try have z11 := gI_divL (x := (((7 * ((w 0) / 32)) + p0) % 640)) (y := 20) (d := 20) (by omega) (by decide) (by decide)); (try have z12 := gI_add (x := (414 + (32 * p0))) (y := ((((7 * ((w 0) / 32)) + p0) % 640) / 20)) (by omega) (by omega)); (try rw [vp_in_iff]); omega) dX7_drops_46 ?_
  refine lv_iload_n hx hb dX7_drops_47 rfl (lv_at hl 1 rfl) ?_
  refine lv_bipush (v := 20) hx hb dX7_drops_48 (by decide) ?_
  refine gIrem hx hb dX7_drops_50 (by decide) ?_
  refine lv_ishr hx hb dX7_drops_51 ?_
  refine lv_iconst (v := 1) hx hb dX7_drops_52 (by decide) ?_
  refine lv_iand hx hb dX7_drops_53 ?_
  refine lv_iadd hx hb dX7_drops_54 ?_
  refine gIast (k := 7) hx hb hK hP hD hS 1 0 rfl rfl (by decide) (gInL (by decide)) dX7_drops_55 (fun H locs hP hD hS => ?_)
  replace hP : va_P G.1 vwCl [(m0, .inr (10, [.int rz, .ref m1, .ref m2, .ref m3, .int hf, .int hs, .ref m6, .int len, .int ec, .int ep, .int pos, .int bg, .int bad, .ref m13, .ref m14, .int plc, .int sta, .ref m17, .ref m18, .ref m19, .int shm])), (m1, .inl (G.2.1.1, 670, .inl (upd w 7 ((w 7) + ((((w (Int32.toNatClampNeg ((414 + (32 * p0)) + ((((7 * ((w 0) / 32)) + p0) % 640) / 20)))) >>> (((((7 * ((w 0) / 32)) + p0) % 640) % 20) &&& 31)) : Int32) &&& 1)))))] H := hP
  replace hD : va_D A [(m0, .inr (10, [.int rz, .ref m1, .ref m2, .ref m3, .int hf, .int hs, .ref m6, .int len, .int ec, .int ep, .int pos, .int bg, .int bad, .ref m13, .ref m14, .int plc, .int sta, .ref m17, .ref m18, .ref m19, .int shm])), (m1, .inl (G.2.1.1, 670, .inl (upd w 7 ((w 7) + ((((w (Int32.toNatClampNeg ((414 + (32 * p0)) + ((((7 * ((w 0) / 32)) + p0) % 640) / 20)))) >>> (((((7 * ((w 0) / 32)) + p0) % 640) % 20) &&& 31)) : Int32) &&& 1)))))] := hD
  refine lv_aload_n hx hb dX7_drops_56 rfl (lv_at hl 2 rfl) ?_
  refine va_get (D := G.1) (ci := 10) (v := .ref m1) (C := RX7) (T := TX7) (N := 21) hx hb hts in_X7 hown hK hP 0 rfl rfl 1 (by decide) (hts _ k_fl_X7_7) (fun _ h9 => h9) rfl dX7_drops_57 ?_
  refine lv_iload_n hx hb dX7_drops_60 rfl (lv_at hl 0 rfl) ?_
  refine lv_dup2_11 hx hb dX7_drops_61 rfl rfl ?_
  refine va_iald hx hb hK hP 1 0 rfl rfl (by have z0 : (414 : Int32).toInt = 414 := (by decide); have z1 : (32 : Int32).toInt = 32 := (by decide); (try have z3 := gI_mul (x := 32) (y := p0) (by (try rw [z1]); (try rw [z2]); omega) (by (try rw [z1]); (try rw [z2]); omega)); (try rw [z1, z2] at z3); (try rw [z1] at z3); (try rw [z2] at z3); (try have z4 := gI_add (x := 414) (y := (32 * p0)) (by omega) (by omega)); have z5 : (7 : Int32).toInt = 7 := (by decide); (try have z7 := gI_divL (x := (w 0)) (y := 32) (d := 32) (by omega) (by decide) (by decide)); (try have z8 := gI_mul (x := 7) (y := ((w 0) / 32)) (by (try rw [z5]); (try rw [z7]); omega) (by (try rw [z5]); (try rw [z7]); omega)); (try rw [z5, z7] at z8); (try rw [z5] at z8); (try rw [z7] at z8); (try have z9 := gI_add (x := (7 * ((w 0) / 32))) (y := p0) (by omega) (by omega)); (try have z10 := gI_modL (x := ((7 * ((w 0) / 32)) + p0)) (y := 640) (d := 640) (by omega) (by decide)); have z10b := gI_modB (x := ((7 * ((w 0) / 32)) + p0)) (y := 640) (d := 640) (by decide) (by decide); (try have z11 := gI_divL (x := (((7 * ((w 0) / 32)) + p0) % 640)) (y := 20) (d := 20) (by omega) (by decide) (by decide)); (try have z12 := gI_add (x := (414 + (32 * p0))) (y := ((((7 * ((w 0) / 32)) + p0) % 640) / 20)) (by omega) (by omega)); (try rw [vp_in_iff]); omega) dX7_drops_62 ?_
  refine lv_iconst (v := 1) hx hb dX7_drops_63 (by decide) ?_
  refine lv_iload_n hx hb dX7_drops_64 rfl (lv_at hl 1 rfl) ?_
  refine lv_bipush (v := 20) hx hb dX7_drops_65 (by decide) ?_
  refine gIrem hx hb dX7_drops_67 (by decide) ?_
  refine lv_ishl hx hb dX7_drops_68 ?_
  refine lv_iconst (v := (-1)) hx hb dX7_drops_69 (by decide) ?_
  refine lv_ixor hx hb dX7_drops_70 ?_
  refine lv_iand hx hb dX7_drops_71 ?_
  refine va_iast hx hb hK hP hD hS 1 0 rfl rfl (by have z0 : (414 : Int32).toInt = 414 := (by decide); have z1 : (32 : Int32).toInt = 32 := (by decide); (try have z3 := gI_mul (x := 32) (y := p0) (by (try rw [z1]); (try rw [z2]); omega) (by (try rw [z1]); (try rw [z2]); omega)); (try rw [z1, z2] at z3); (try rw [z1] at z3); (try rw [z2] at z3); (try have z4 := gI_add (x := 414) (y := (32 * p0)) (by omega) (by omega)); have z5 : (7 : Int32).toInt = 7 := (by decide); (try have z7 := gI_divL (x := (w 0)) (y := 32) (d := 32) (by omega) (by decide) (by decide)); (try have z8 := gI_mul (x := 7) (y := ((w 0) / 32)) (by (try rw [z5]); (try rw [z7]); omega) (by (try rw [z5]); (try rw [z7]); omega)); (try rw [z5, z7] at z8); (try rw [z5] at z8); (try rw [z7] at z8); (try have z9 := gI_add (x := (7 * ((w 0) / 32))) (y := p0) (by omega) (by omega)); (try have z10 := gI_modL (x := ((7 * ((w 0) / 32)) + p0)) (y := 640) (d := 640) (by omega) (by decide)); have z10b := gI_modB (x := ((7 * ((w 0) / 32)) + p0)) (y := 640) (d := 640) (by decide) (by decide); (try have z11 := gI_divL (x := (((7 * ((w 0) / 32)) + p0) % 640)) (y := 20) (d := 20) (by omega) (by decide) (by decide)); (try have z12 := gI_add (x := (414 + (32 * p0))) (y := ((((7 * ((w 0) / 32)) + p0) % 640) / 20)) (by omega) (by omega)); (try rw [vp_in_iff]); omega) dX7_drops_72 (fun H locs hP hD hS => ?_)
  replace hP : va_P G.1 vwCl [(m0, .inr (10, [.int rz, .ref m1, .ref m2, .ref m3, .int hf, .int hs, .ref m6, .int len, .int ec, .int ep, .int pos, .int bg, .int bad, .ref m13, .ref m14, .int plc, .int sta, .ref m17, .ref m18, .ref m19, .int shm])), (m1, .inl (G.2.1.1, 670, .inl (upd (upd w 7 ((w 7) + ((((w (Int32.toNatClampNeg ((414 + (32 * p0)) + ((((7 * ((w 0) / 32)) + p0) % 640) / 20)))) >>> (((((7 * ((w 0) / 32)) + p0) % 640) % 20) &&& 31)) : Int32) &&& 1))) (Int32.toNatClampNeg ((414 + (32 * p0)) + ((((7 * ((w 0) / 32)) + p0) % 640) / 20))) (((upd w 7 ((w 7) + ((((w (Int32.toNatClampNeg ((414 + (32 * p0)) + ((((7 * ((w 0) / 32)) + p0) % 640) / 20)))) >>> (((((7 * ((w 0) / 32)) + p0) % 640) % 20) &&& 31)) : Int32) &&& 1))) (Int32.toNatClampNeg ((414 + (32 * p0)) + ((((7 * ((w 0) / 32)) + p0) % 640) / 20)))) &&& ((((1 : Int32) <<< (((((7 * ((w 0) / 32)) + p0) % 640) % 20) &&& 31)) : Int32) ^^^ (-1))))))] H := hP
  replace hD : va_D A [(m0, .inr (10, [.int rz, .ref m1, .ref m2, .ref m3, .int hf, .int hs, .ref m6, .int len, .int ec, .int ep, .int pos, .int bg, .int bad, .ref m13, .ref m14, .int plc, .int sta, .ref m17, .ref m18, .ref m19, .int shm])), (m1, .inl (G.2.1.1, 670, .inl (upd (upd w 7 ((w 7) + ((((w (Int32.toNatClampNeg ((414 + (32 * p0)) + ((((7 * ((w 0) / 32)) + p0) % 640) / 20)))) >>> (((((7 * ((w 0) / 32)) + p0) % 640) % 20) &&& 31)) : Int32) &&& 1))) (Int32.toNatClampNeg ((414 + (32 * p0)) + ((((7 * ((w 0) / 32)) + p0) % 640) / 20))) (((upd w 7 ((w 7) + ((((w (Int32.toNatClampNeg ((414 + (32 * p0)) + ((((7 * ((w 0) / 32)) + p0) % 640) / 20)))) >>> (((((7 * ((w 0) / 32)) + p0) % 640) % 20) &&& 31)) : Int32) &&& 1))) (Int32.toNatClampNeg ((414 + (32 * p0)) + ((((7 * ((w 0) / 32)) + p0) % 640) / 20)))) &&& ((((1 : Int32) <<< (((((7 * ((w 0) / 32)) + p0) % 640) % 20) &&& 31)) : Int32) ^^^ (-1))))))] := hD
  exact gRetV F hr hlocks hK hP hD hS rfl rfl (Nat.le_of_ble_eq_true rfl) (Nat.le_of_ble_eq_true rfl) dX7_drops_73
theorem okV_X7_drops : gOkV yX7_drops cX7_drops 4 none 1 := ⟨⟨k_im_X7_drops, k_se_X7_drops, k_in_X7, k_cd_X7_drops⟩, by decide, by decide, by decide +kernel⟩

theorem gClamp {x : Int32} {n : Nat} (h : x.toInt = n) : x.toNatClampNeg = n := by
  show x.toInt.toNat = n
  omega
theorem cl0 : Int32.toNatClampNeg 0 = 0 := by decide
theorem cl1 : Int32.toNatClampNeg 1 = 1 := by decide
theorem cl2 : Int32.toNatClampNeg 2 = 2 := by decide
theorem cl3 : Int32.toNatClampNeg 3 = 3 := by decide
theorem cl4 : Int32.toNatClampNeg 4 = 4 := by decide
theorem cl5 : Int32.toNatClampNeg 5 = 5 := by decide
theorem cl6 : Int32.toNatClampNeg 6 = 6 := by decide
theorem cl7 : Int32.toNatClampNeg 7 = 7 := by decide
theorem cl8 : Int32.toNatClampNeg 8 = 8 := by decide
theorem cl9 : Int32.toNatClampNeg 9 = 9 := by decide
theorem cl10 : Int32.toNatClampNeg 10 = 10 := by decide
theorem cl11 : Int32.toNatClampNeg 11 = 11 := by decide
theorem cl12 : Int32.toNatClampNeg 12 = 12 := by decide
theorem cl13 : Int32.toNatClampNeg 13 = 13 := by decide
theorem cl30 : Int32.toNatClampNeg 30 = 30 := by decide
theorem cl94 : Int32.toNatClampNeg 94 = 94 := by decide
theorem pu {f : Nat → Int32} {k j : Nat} {x : Int32} (h : j ≠ k) : upd f k x j = f j := by simp [upd, h]
theorem pus {f : Nat → Int32} {k : Nat} {x : Int32} : upd f k x k = x := by simp [upd]
/-- a tank's number -/
def Tk (t : Int32) : Prop := 0 ≤ t.toInt ∧ t.toInt < 8
theorem ixWord {t : Int32} (ht : Tk t) {c : Nat} (hc : c < 32) : ((414 + (32 * t)) + nI c).toNatClampNeg = 414 + 32 * t.toNatClampNeg + c := by
  obtain ⟨h1, h2⟩ := ht
  have e0 := gI_clamp h1
  have e1 := nI_toInt (n := c) (by omega)
  have e2 : (32 : Int32).toInt = 32 := (by decide)
  have e3 : (414 : Int32).toInt = 414 := (by decide)
  have e4 := gI_mul (x := 32) (y := t) (by rw [e2]; omega) (by rw [e2]; omega)
  rw [e2] at e4
  have e5 := gI_add (x := 414) (y := 32 * t) (by omega) (by omega)
  have e6 := gI_add (x := 414 + 32 * t) (y := nI c) (by omega) (by omega)
  exact gClamp (by omega)
theorem ixTank {a t : Int32} (ht : Tk t) {n : Nat} (ha : a.toInt = n) (hn : n < 1000) : (a + t).toNatClampNeg = n + t.toNatClampNeg := by
  obtain ⟨h1, h2⟩ := ht
  have e0 := gI_clamp h1
  have e5 := gI_add (x := a) (y := t) (by omega) (by omega)
  exact gClamp (by omega)
theorem Tk_nI {k : Nat} (h : k < 8) : Tk (nI k) := by
  have e := nI_toInt (n := k) (by omega)
  exact ⟨by omega, by omega⟩
theorem moves72_ne {w ring : Nat → Int32} {p0 p1 : Int32} (ht : Tk p0) {j : Nat} : ∀ k, k ≤ 32 → (∀ c, c < 32 → j ≠ 414 + 32 * p0.toNatClampNeg + c) → it_X7_moves_72 w ring p0 p1 k j = w j := by
  intro k
  induction k with
  | zero => intro _ _; rfl
  | succ k ih =>
    intro hk hj
    show st_X7_moves_72 w ring p0 p1 k (it_X7_moves_72 w ring p0 p1 k) j = w j
    unfold st_X7_moves_72
    rw [pu (by rw [ixWord ht (by omega)]; exact hj k (by omega))]
    exact ih (by omega) hj
theorem moves_ne {w ring : Nat → Int32} {p0 p1 : Int32} (ht : Tk p0) {j : Nat} (hj : ∀ c, c < 32 → j ≠ 414 + 32 * p0.toNatClampNeg + c) (hs : j ≠ 22 + p0.toNatClampNeg) : (f_X7_moves w ring p0 p1).1 j = w j := by
  unfold f_X7_moves
  show upd _ _ _ j = w j
  rw [pu (by rw [ixTank ht (n := 22) (by decide) (by decide)]; exact hs)]
  exact moves72_ne ht 32 (Nat.le_refl _) hj
theorem moves_lo {w ring : Nat → Int32} {p0 p1 : Int32} (ht : Tk p0) {j : Nat} (hj : j < 22) : (f_X7_moves w ring p0 p1).1 j = w j := moves_ne ht (fun c _ => by omega) (by omega)
/-- the place of the bit that may drop, and its cell -/
theorem dropX {w : Nat → Int32} {p0 : Int32} (ht : Tk p0) (hT : 0 ≤ (w 0).toInt ∧ (w 0).toInt < 200000000) :
    (((7 * ((w 0) / 32)) + p0) % 640).toInt = (7 * ((w 0).toInt / 32) + p0.toInt) % 640 := by
  obtain ⟨h1, h2⟩ := ht
  have e2 : (7 : Int32).toInt = 7 := (by decide)
  have e3 := gI_divL (x := w 0) (y := 32) (d := 32) (by omega) (by decide) (by decide)
  have e4 := gI_mul (x := 7) (y := w 0 / 32) (by rw [e2]; omega) (by rw [e2]; omega)
  rw [e2] at e4
  have e5 := gI_add (x := 7 * (w 0 / 32)) (y := p0) (by omega) (by omega)
  rw [gI_modL (d := 640) (by omega) (by decide)]
  omega
theorem dropC {p0 x : Int32} (ht : Tk p0) (hx : 0 ≤ x.toInt ∧ x.toInt < 640) : ((414 + (32 * p0)) + (x / 20)).toNatClampNeg = 414 + 32 * p0.toNatClampNeg + x.toNatClampNeg / 20 := by
  obtain ⟨h1, h2⟩ := ht
  have e0 := gI_clamp h1
  have e9 := gI_clamp hx.1
  have e1 := gI_divL (x := x) (y := 20) (d := 20) (by omega) (by decide) (by decide)
  have e2 : (32 : Int32).toInt = 32 := (by decide)
  have e3 : (414 : Int32).toInt = 414 := (by decide)
  have e4 := gI_mul (x := 32) (y := p0) (by rw [e2]; omega) (by rw [e2]; omega)
  rw [e2] at e4
  have e5 := gI_add (x := 414) (y := 32 * p0) (by omega) (by omega)
  have e6 := gI_add (x := 414 + 32 * p0) (y := x / 20) (by omega) (by omega)
  exact gClamp (by omega)
theorem drops_ne {w : Nat → Int32} {p0 : Int32} (ht : Tk p0) (hT : 0 ≤ (w 0).toInt ∧ (w 0).toInt < 200000000) {j : Nat} (h7 : j ≠ 7) (hj : ∀ c, c < 32 → j ≠ 414 + 32 * p0.toNatClampNeg + c) : f_X7_drops w p0 j = w j := by
  unfold f_X7_drops
  have hx := dropX ht hT
  have hx2 : 0 ≤ (((7 * ((w 0) / 32)) + p0) % 640).toInt ∧ (((7 * ((w 0) / 32)) + p0) % 640).toInt < 640 := by omega
  have hc := dropC ht hx2
  have e9 := gI_clamp hx2.1
  rw [hc, pu (hj _ (by omega)), pu h7]
theorem drops_lo {w : Nat → Int32} {p0 : Int32} (ht : Tk p0) (hT : 0 ≤ (w 0).toInt ∧ (w 0).toInt < 200000000) {j : Nat} (hj : j < 22) (h7 : j ≠ 7) : f_X7_drops w p0 j = w j := drops_ne ht hT h7 (fun c _ => by omega)

def st_X7_ends_7 (w : Nat → Int32) (k : Nat) (v0_ : Nat → Int32) (v1_ : Nat → Int32) : (Nat → Int32) × (Nat → Int32) :=
  if (f_X7_floor ((f_X7_mismatchAt v0_ (v0_ (Int32.toNatClampNeg (14 + (nI k))))) + ((f_X7_periodNow w) / 2)) (f_X7_periodNow w)) = 0 then
    if (f_X7_distance ((f_X7_mismatchAt v0_ (v0_ (Int32.toNatClampNeg (14 + (nI k))))) - ((f_X7_floor ((f_X7_mismatchAt v0_ (v0_ (Int32.toNatClampNeg (14 + (nI k))))) + ((f_X7_periodNow w) / 2)) (f_X7_periodNow w)) * (f_X7_periodNow w)))) ≤ ((f_X7_periodNow w) / 4) then
      (v0_, v1_)
    else
      ((f_X7_drops v0_ (nI k)), v1_)
  else
    if (f_X7_distance ((f_X7_mismatchAt v0_ (v0_ (Int32.toNatClampNeg (14 + (nI k))))) - ((f_X7_floor ((f_X7_mismatchAt v0_ (v0_ (Int32.toNatClampNeg (14 + (nI k))))) + ((f_X7_periodNow w) / 2)) (f_X7_periodNow w)) * (f_X7_periodNow w)))) ≤ ((f_X7_periodNow w) / 4) then
      ((f_X7_moves v0_ v1_ (nI k) (f_X7_floor ((f_X7_mismatchAt v0_ (v0_ (Int32.toNatClampNeg (14 + (nI k))))) + ((f_X7_periodNow w) / 2)) (f_X7_periodNow w))).1, (f_X7_moves v0_ v1_ (nI k) (f_X7_floor ((f_X7_mismatchAt v0_ (v0_ (Int32.toNatClampNeg (14 + (nI k))))) + ((f_X7_periodNow w) / 2)) (f_X7_periodNow w))).2)
    else
      ((f_X7_drops ((f_X7_moves v0_ v1_ (nI k) (f_X7_floor ((f_X7_mismatchAt v0_ (v0_ (Int32.toNatClampNeg (14 + (nI k))))) + ((f_X7_periodNow w) / 2)) (f_X7_periodNow w))).1) (nI k)), (f_X7_moves v0_ v1_ (nI k) (f_X7_floor ((f_X7_mismatchAt v0_ (v0_ (Int32.toNatClampNeg (14 + (nI k))))) + ((f_X7_periodNow w) / 2)) (f_X7_periodNow w))).2)
def it_X7_ends_7 (w : Nat → Int32) (ring : Nat → Int32) : Nat → (Nat → Int32) × (Nat → Int32)
  | 0 => (w, ring)
  | i + 1 => st_X7_ends_7 w i (it_X7_ends_7 w ring i).1 (it_X7_ends_7 w ring i).2
def f_X7_ends (w : Nat → Int32) (ring : Nat → Int32) : (Nat → Int32) × (Nat → Int32) :=
  ((f_X7_warms ((it_X7_ends_7 w ring 8).1)), (it_X7_ends_7 w ring 8).2)

theorem ends_lo {w ring : Nat → Int32} (hT : 0 ≤ (w 0).toInt ∧ (w 0).toInt < 200000000) : ∀ k, k ≤ 8 → ∀ j, j < 22 → j ≠ 7 → (it_X7_ends_7 w ring k).1 j = w j := by
  intro k
  induction k with
  | zero => intro _ j _ _; rfl
  | succ k ih =>
    intro hk j hj h7
    have ih2 := ih (by omega)
    have hT2 : 0 ≤ ((it_X7_ends_7 w ring k).1 0).toInt ∧ ((it_X7_ends_7 w ring k).1 0).toInt < 200000000 := by rw [ih2 0 (by omega) (by omega)]; exact hT
    have hk8 : Tk (nI k) := Tk_nI (by omega)
    show (st_X7_ends_7 w k (it_X7_ends_7 w ring k).1 (it_X7_ends_7 w ring k).2).1 j = w j
    unfold st_X7_ends_7
    split
    · split
      · exact ih2 j hj h7
      · show f_X7_drops _ _ j = w j
        rw [drops_lo hk8 hT2 hj h7]; exact ih2 j hj h7
    · split
      · show (f_X7_moves _ _ _ _).1 j = w j
        rw [moves_lo hk8 hj]; exact ih2 j hj h7
      · show f_X7_drops _ _ j = w j
        rw [drops_lo hk8 (by rw [moves_lo hk8 (by omega)]; exact hT2) hj h7, moves_lo hk8 hj]; exact ih2 j hj h7
theorem warms_ne {w : Nat → Int32} {j : Nat} : ∀ k, k ≤ 8 → (∀ c, c < 8 → j ≠ 14 + c) → it_X7_warms_2 w k j = w j := by
  intro k
  induction k with
  | zero => intro _ _; rfl
  | succ k ih =>
    intro hk hj
    show st_X7_warms_2 k (it_X7_warms_2 w k) j = w j
    unfold st_X7_warms_2
    have e := nI_toInt (n := k) (by omega)
    have h := Tk_nI (k := k) (by omega)
    have e2 := gI_clamp h.1
    rw [pu (by rw [ixTank (Tk_nI (by omega)) (n := 14) (by decide) (by decide)]; have := hj k (by omega); omega)]
    exact ih (by omega) hj
theorem warms_lo {w : Nat → Int32} {j : Nat} (h9 : j ≠ 9) (hj : ∀ c, c < 8 → j ≠ 14 + c) : f_X7_warms w j = w j := by
  unfold f_X7_warms
  rw [pu h9]
  exact warms_ne 8 (Nat.le_refl _) hj
theorem ends_lo2 {w ring : Nat → Int32} (hT : 0 ≤ (w 0).toInt ∧ (w 0).toInt < 200000000) {j : Nat} (hj : j < 14) (h7 : j ≠ 7) (h9 : j ≠ 9) : (f_X7_ends w ring).1 j = w j := by
  unfold f_X7_ends
  show f_X7_warms _ j = w j
  rw [warms_lo h9 (fun c _ => by omega)]
  exact ends_lo hT 8 (Nat.le_refl _) j (by omega) h7
/-- the settings of the clock are in their ranges -/
def RP (w : Nat → Int32) : Prop := (0 ≤ (w 8).toInt ∧ (w 8).toInt ≤ 1000) ∧ (0 ≤ (w 9).toInt ∧ (w 9).toInt ≤ 1000) ∧ 900000 ≤ (w 11).toInt ∧ (w 11).toInt ≤ 1100000
theorem gWarm {o h : Int32} (ho : 0 ≤ o.toInt ∧ o.toInt ≤ 1000) (hh : 0 ≤ h.toInt ∧ h.toInt ≤ 1000) : (h + (o - h) / 8).toInt = h.toInt + (o.toInt - h.toInt).tdiv 8 ∧ 0 ≤ (h + (o - h) / 8).toInt ∧ (h + (o - h) / 8).toInt ≤ 1000 := by
  have e1 := gI_sub (x := o) (y := h) (by omega) (by omega)
  have e8 : (8 : Int32).toInt = 8 := (by decide)
  have e2 := gI_tdiv (x := o - h) (y := 8) (by rw [e8]; omega)
  rw [e8, e1] at e2
  have h3 : -(1000 : Int) ≤ (o.toInt - h.toInt).tdiv 8 ∧ (o.toInt - h.toInt).tdiv 8 ≤ 1000 ∧ 0 ≤ h.toInt + (o.toInt - h.toInt).tdiv 8 ∧ h.toInt + (o.toInt - h.toInt).tdiv 8 ≤ 1000 := by
    rcases Int.le_total 0 (o.toInt - h.toInt) with q | q
    · rw [Int.tdiv_eq_ediv_of_nonneg q]; omega
    · have e : (o.toInt - h.toInt).tdiv 8 = -((h.toInt - o.toInt).tdiv 8) := by
        rw [← Int.neg_tdiv]
        congr 1
        omega
      rw [e, Int.tdiv_eq_ediv_of_nonneg (by omega)]; omega
  have e3 := gI_add (x := h) (y := (o - h) / 8) (by omega) (by omega)
  omega
theorem RP_ends {w ring : Nat → Int32} (hT : 0 ≤ (w 0).toInt ∧ (w 0).toInt < 200000000) (h : RP w) : RP (f_X7_ends w ring).1 := by
  obtain ⟨h8, h9, h11⟩ := h
  have e8 := ends_lo2 (ring := ring) hT (j := 8) (by decide) (by decide) (by decide)
  have e11 := ends_lo2 (ring := ring) hT (j := 11) (by decide) (by decide) (by decide)
  refine ⟨by rw [e8]; exact h8, ?_, by rw [e11]; exact h11⟩
  have k8 := ends_lo (ring := ring) hT 8 (Nat.le_refl _) 8 (by decide) (by decide)
  have k9 := ends_lo (ring := ring) hT 8 (Nat.le_refl _) 9 (by decide) (by decide)
  have g8 := warms_ne (w := (it_X7_ends_7 w ring 8).1) (j := 8) 8 (Nat.le_refl _) (fun c _ => by omega)
  have g9 := warms_ne (w := (it_X7_ends_7 w ring 8).1) (j := 9) 8 (Nat.le_refl _) (fun c _ => by omega)
  have e : (f_X7_ends w ring).1 9 = w 9 + (w 8 - w 9) / 8 := by
    unfold f_X7_ends
    show f_X7_warms _ 9 = _
    unfold f_X7_warms
    rw [pus, g9, g8, k9, k8]
  rw [e]
  exact (gWarm h8 h9).2
theorem period_rng {w : Nat → Int32} (h : RP w) : 900000 ≤ (f_X7_periodNow w).toInt ∧ (f_X7_periodNow w).toInt ≤ 1100000 := by
  obtain ⟨h8, h9, h11⟩ := h
  unfold f_X7_periodNow
  split
  · unfold f_X7_delayAt
    have e0 : (400 : Int32).toInt = 400 := (by decide)
    have e1 : (19200 : Int32).toInt = 19200 := (by decide)
    have e2 : (640000000 : Int32).toInt = 640000000 := (by decide)
    have a1 := gI_sub (x := w 9) (y := 400) (by omega) (by omega)
    have a2 := gI_mul (x := 19200) (y := w 9 - 400) (by rw [e1]; omega) (by rw [e1]; omega)
    rw [e1] at a2
    have a3 := gI_add (x := 640000000) (y := 19200 * (w 9 - 400)) (by omega) (by omega)
    have a4 := gI_divL (x := 640000000 + 19200 * (w 9 - 400)) (y := 640) (d := 640) (by omega) (by decide) (by decide)
    omega
  · exact h11
theorem period_ne {w : Nat → Int32} (h : RP w) : ¬ f_X7_periodNow w = 0 := fun q => by
  have := period_rng h
  rw [q] at this
  have e : (0 : Int32).toInt = 0 := (by decide)
  omega

set_option maxRecDepth 100000 in
set_option maxHeartbeats 4000000 in
theorem c_X7_ends (l : Launch) (G : gG) (m0 : Nat) (m1 : Nat) (m2 : Nat) (m3 : Nat) (m6 : Nat) (m13 : Nat) (m14 : Nat) (m17 : Nat) (m18 : Nat) (m19 : Nat) (rz : Int32) (hf : Int32) (hs : Int32) (len : Int32) (ec : Int32) (ep : Int32) (pos : Int32) (bg : Int32) (bad : Int32) (plc : Int32) (sta : Int32) (shm : Int32) (w : Nat → Int32) (ring : Nat → Int32) (hT : 0 ≤ (w 0).toInt ∧ (w 0).toInt < 200000000) (hp : ¬ f_X7_periodNow w = 0) : gM l G yX7_ends cX7_ends 5 none { frames := 3, cells := 0, slots := 0, locals := 61 } [.ref m0] [(m0, .inr (10, [.int rz, .ref m1, .ref m2, .ref m3, .int hf, .int hs, .ref m6, .int len, .int ec, .int ep, .int pos, .int bg, .int bad, .ref m13, .ref m14, .int plc, .int sta, .ref m17, .ref m18, .ref m19, .int shm])), (m1, .inl (G.2.1.1, 670, .inl w)), (m18, .inl (G.2.1.1, 640, .inl ring))] none [(m0, .inr (10, [.int rz, .ref m1, .ref m2, .ref m3, .int hf, .int hs, .ref m6, .int len, .int ec, .int ep, .int pos, .int bg, .int bad, .ref m13, .ref m14, .int plc, .int sta, .ref m17, .ref m18, .ref m19, .int shm])), (m1, .inl (G.2.1.1, 670, .inl ((f_X7_ends w ring).1))), (m18, .inl (G.2.1.1, 640, .inl ((f_X7_ends w ring).2)))] 0 0 := by
  refine gBegin (by decide +kernel) (Nat.le_of_ble_eq_true rfl) (fun p e s m args below meth c A F hr hlocks hname hN hK hP hD hA hS ls hl => ?_)
  obtain ⟨hx, hb, hml, hown, hts⟩ := id F
  replace hP : va_P G.1 vwCl [(m0, .inr (10, [.int rz, .ref m1, .ref m2, .ref m3, .int hf, .int hs, .ref m6, .int len, .int ec, .int ep, .int pos, .int bg, .int bad, .ref m13, .ref m14, .int plc, .int sta, .ref m17, .ref m18, .ref m19, .int shm])), (m1, .inl (G.2.1.1, 670, .inl w)), (m18, .inl (G.2.1.1, 640, .inl ring))] s.heap := hP
  replace hl : lv_has ls 5 [(0, .ref m0)] := hl
  refine lv_aload_n hx hb dX7_ends_0 rfl (lv_at hl 0 rfl) ?_
  refine gV (As := []) (rest := []) (wr := [(m18, .inl (G.2.1.1, 640, .inl ring))]) (ws' := [(m0, .inr (10, [.int rz, .ref m1, .ref m2, .ref m3, .int hf, .int hs, .ref m6, .int len, .int ec, .int ep, .int pos, .int bg, .int bad, .ref m13, .ref m14, .int plc, .int sta, .ref m17, .ref m18, .ref m19, .int shm])), (m1, .inl (G.2.1.1, 670, .inl w)), (m18, .inl (G.2.1.1, 640, .inl ring))]) F (c_X7_periodNow l G m0 m1 m2 m3 m6 m13 m14 m17 m18 m19 rz hf hs len ec ep pos bg bad plc sta shm w) okV_X7_periodNow k_ml_X7_227 rfl rfl ⟨Nat.le_of_ble_eq_true rfl, Nat.le_of_ble_eq_true rfl⟩ hN hK hP hD hS hA [0, 1] [2] [1, 2, 0] (by decide) rfl rfl (by decide) (by decide) (by decide) rfl (q0 := 0) rfl rfl rfl rfl hl.1 (Nat.le_of_ble_eq_true rfl) dX7_ends_1 ⟨Nat.le_refl _, Nat.le_refl _⟩ (fun H locs hP hD hS => ?_)
  refine lv_istore_n (lv' := [(1, .int (f_X7_periodNow w)), (0, .ref m0)]) hx hb dX7_ends_4 rfl hl (by decide) rfl (fun ls hl => ?_)
  refine lv_iconst (v := 0) hx hb dX7_ends_5 (by decide) ?_
  refine lv_istore_n (lv' := [(2, .int 0), (1, .int (f_X7_periodNow w)), (0, .ref m0)]) hx hb dX7_ends_6 rfl hl (by decide) rfl (fun ls hl => ?_)
  have loop_7 : ∀ (fu k : Nat), k + fu = 8 → ∀ (H : Heap) (locs : List Loc), va_P G.1 vwCl [(m0, .inr (10, [.int rz, .ref m1, .ref m2, .ref m3, .int hf, .int hs, .ref m6, .int len, .int ec, .int ep, .int pos, .int bg, .int bad, .ref m13, .ref m14, .int plc, .int sta, .ref m17, .ref m18, .ref m19, .int shm])), (m1, .inl (G.2.1.1, 670, .inl ((it_X7_ends_7 w ring k).1))), (m18, .inl (G.2.1.1, 640, .inl ((it_X7_ends_7 w ring k).2)))] H → va_D A [(m0, .inr (10, [.int rz, .ref m1, .ref m2, .ref m3, .int hf, .int hs, .ref m6, .int len, .int ec, .int ep, .int pos, .int bg, .int bad, .ref m13, .ref m14, .int plc, .int sta, .ref m17, .ref m18, .ref m19, .int shm])), (m1, .inl (G.2.1.1, 670, .inl ((it_X7_ends_7 w ring k).1))), (m18, .inl (G.2.1.1, 640, .inl ((it_X7_ends_7 w ring k).2)))] → va_S A s.heap H locs → ∀ ls : Array Slot, lv_has ls 5 [(2, .int (nI k)), (1, .int (f_X7_periodNow w)), (0, .ref m0)] → W p l e { frames := 3, cells := 0, slots := 0, locals := 61 } s m args below meth c H locs 0 0 (MQ below (gQ G none [(m0, .inr (10, [.int rz, .ref m1, .ref m2, .ref m3, .int hf, .int hs, .ref m6, .int len, .int ec, .int ep, .int pos, .int bg, .int bad, .ref m13, .ref m14, .int plc, .int sta, .ref m17, .ref m18, .ref m19, .int shm])), (m1, .inl (G.2.1.1, 670, .inl ((f_X7_ends w ring).1))), (m18, .inl (G.2.1.1, 640, .inl ((f_X7_ends w ring).2)))] A) args s 0 0 A) (F0 m 7 ls []) := by
    intro fu
    induction fu with
    | zero =>
      intro k hk H locs hP hD hS ls hl
      have ek : 8 = k := by omega
      subst ek
      replace hP : va_P G.1 vwCl [(m0, .inr (10, [.int rz, .ref m1, .ref m2, .ref m3, .int hf, .int hs, .ref m6, .int len, .int ec, .int ep, .int pos, .int bg, .int bad, .ref m13, .ref m14, .int plc, .int sta, .ref m17, .ref m18, .ref m19, .int shm])), (m1, .inl (G.2.1.1, 670, .inl ((it_X7_ends_7 w ring 8).1))), (m18, .inl (G.2.1.1, 640, .inl ((it_X7_ends_7 w ring 8).2)))] H := hP
      replace hD : va_D A [(m0, .inr (10, [.int rz, .ref m1, .ref m2, .ref m3, .int hf, .int hs, .ref m6, .int len, .int ec, .int ep, .int pos, .int bg, .int bad, .ref m13, .ref m14, .int plc, .int sta, .ref m17, .ref m18, .ref m19, .int shm])), (m1, .inl (G.2.1.1, 670, .inl ((it_X7_ends_7 w ring 8).1))), (m18, .inl (G.2.1.1, 640, .inl ((it_X7_ends_7 w ring 8).2)))] := hD
      replace hl : lv_has ls 5 [(2, .int (nI 8)), (1, .int (f_X7_periodNow w)), (0, .ref m0)] := hl
      refine lv_iload_n hx hb dX7_ends_7 rfl (lv_at hl 0 rfl) ?_
      refine lv_bipush (v := 8) hx hb dX7_ends_8 (by decide) ?_
      refine lv_icmp_ge (tgt := 76) hx hb dX7_ends_10 (by decide) (fun c_1 => ?_) (fun c_1 => ?_)
      · skip
        refine lv_aload_n hx hb dX7_ends_76 rfl (lv_at hl 2 rfl) ?_
        refine gV (As := []) (rest := []) (wr := [(m18, .inl (G.2.1.1, 640, .inl ((it_X7_ends_7 w ring 8).2)))]) (ws' := [(m0, .inr (10, [.int rz, .ref m1, .ref m2, .ref m3, .int hf, .int hs, .ref m6, .int len, .int ec, .int ep, .int pos, .int bg, .int bad, .ref m13, .ref m14, .int plc, .int sta, .ref m17, .ref m18, .ref m19, .int shm])), (m1, .inl (G.2.1.1, 670, .inl (f_X7_warms ((it_X7_ends_7 w ring 8).1)))), (m18, .inl (G.2.1.1, 640, .inl ((it_X7_ends_7 w ring 8).2)))]) F (c_X7_warms l G m0 m1 m2 m3 m6 m13 m14 m17 m18 m19 rz hf hs len ec ep pos bg bad plc sta shm ((it_X7_ends_7 w ring 8).1)) okV_X7_warms k_ml_X7_246 rfl rfl ⟨Nat.le_of_ble_eq_true rfl, Nat.le_of_ble_eq_true rfl⟩ hN hK hP hD hS hA [0, 1] [2] [1, 2, 0] (by decide) rfl rfl (by decide) (by decide) (by decide) rfl (q0 := 0) rfl rfl rfl rfl hl.1 (Nat.le_of_ble_eq_true rfl) dX7_ends_77 ⟨Nat.le_refl _, Nat.le_refl _⟩ (fun H locs hP hD hS => ?_)
        exact gRetV F hr hlocks hK hP hD hS rfl rfl (Nat.le_of_ble_eq_true rfl) (Nat.le_of_ble_eq_true rfl) dX7_ends_80
      · exact absurd (Int32.le_refl _) c_1
    | succ fu ih =>
      intro k hk H locs hP hD hS ls hl
      have hlt_k : k < 8 := by omega
      refine lv_iload_n hx hb dX7_ends_7 rfl (lv_at hl 0 rfl) ?_
      refine lv_bipush (v := 8) hx hb dX7_ends_8 (by decide) ?_
      refine lv_icmp_ge (tgt := 76) hx hb dX7_ends_10 (by decide) (fun c_2 => ?_) (fun c_2 => ?_)
      · exact absurd c_2 (nI_ge hlt_k (by decide))
      · skip
        refine lv_aload_n hx hb dX7_ends_13 rfl (lv_at hl 2 rfl) ?_
        refine lv_aload_n hx hb dX7_ends_14 rfl (lv_at hl 2 rfl) ?_
        refine va_get (D := G.1) (ci := 10) (v := .ref m1) (C := RX7) (T := TX7) (N := 21) hx hb hts in_X7 hown hK hP 0 rfl rfl 1 (by decide) (hts _ k_fl_X7_7) (fun _ h9 => h9) rfl dX7_ends_15 ?_
        refine lv_bipush (v := 14) hx hb dX7_ends_18 (by decide) ?_
        refine lv_iload_n hx hb dX7_ends_20 rfl (lv_at hl 0 rfl) ?_
        refine lv_iadd hx hb dX7_ends_21 ?_
        refine va_iald hx hb hK hP 1 0 rfl rfl (by have z0 : (14 : Int32).toInt = 14 := (by decide); have z1 := nI_toInt (n := k) (by omega); (try have z2 := gI_add (x := 14) (y := (nI k)) (by omega) (by omega)); (try rw [vp_in_iff]); omega) dX7_ends_22 ?_
        refine gV (As := [.int (((it_X7_ends_7 w ring k).1) (Int32.toNatClampNeg (14 + (nI k))))]) (rest := []) (wr := [(m18, .inl (G.2.1.1, 640, .inl ((it_X7_ends_7 w ring k).2)))]) (ws' := [(m0, .inr (10, [.int rz, .ref m1, .ref m2, .ref m3, .int hf, .int hs, .ref m6, .int len, .int ec, .int ep, .int pos, .int bg, .int bad, .ref m13, .ref m14, .int plc, .int sta, .ref m17, .ref m18, .ref m19, .int shm])), (m1, .inl (G.2.1.1, 670, .inl ((it_X7_ends_7 w ring k).1))), (m18, .inl (G.2.1.1, 640, .inl ((it_X7_ends_7 w ring k).2)))]) F (c_X7_mismatchAt l G m0 m1 m2 m3 m6 m13 m14 m17 m18 m19 rz hf hs len ec ep pos bg bad plc sta shm ((it_X7_ends_7 w ring k).1) (((it_X7_ends_7 w ring k).1) (Int32.toNatClampNeg (14 + (nI k))))) okV_X7_mismatchAt k_ml_X7_230 rfl rfl ⟨Nat.le_of_ble_eq_true rfl, Nat.le_of_ble_eq_true rfl⟩ hN hK hP hD hS hA [0, 1] [2] [1, 2, 0] (by decide) rfl rfl (by decide) (by decide) (by decide) rfl (q0 := 0) rfl rfl rfl rfl hl.1 (Nat.le_of_ble_eq_true rfl) dX7_ends_23 ⟨Nat.le_refl _, Nat.le_refl _⟩ (fun H locs hP hD hS => ?_)
        refine lv_istore_n (lv' := [(3, .int (f_X7_mismatchAt ((it_X7_ends_7 w ring k).1) (((it_X7_ends_7 w ring k).1) (Int32.toNatClampNeg (14 + (nI k)))))), (2, .int (nI k)), (1, .int (f_X7_periodNow w)), (0, .ref m0)]) hx hb dX7_ends_26 rfl hl (by decide) rfl (fun ls hl => ?_)
        refine lv_iload_n hx hb dX7_ends_27 rfl (lv_at hl 0 rfl) ?_
        refine lv_iload_n hx hb dX7_ends_28 rfl (lv_at hl 2 rfl) ?_
        refine lv_iconst (v := 2) hx hb dX7_ends_29 (by decide) ?_
        refine lv_idiv hx hb dX7_ends_30 (by decide) ?_
        refine lv_iadd hx hb dX7_ends_31 ?_
        refine lv_iload_n hx hb dX7_ends_32 rfl (lv_at hl 2 rfl) ?_
        refine gS (As := [.int ((f_X7_mismatchAt ((it_X7_ends_7 w ring k).1) (((it_X7_ends_7 w ring k).1) (Int32.toNatClampNeg (14 + (nI k))))) + ((f_X7_periodNow w) / 2)), .int (f_X7_periodNow w)]) (rest := []) (wr := [(m0, .inr (10, [.int rz, .ref m1, .ref m2, .ref m3, .int hf, .int hs, .ref m6, .int len, .int ec, .int ep, .int pos, .int bg, .int bad, .ref m13, .ref m14, .int plc, .int sta, .ref m17, .ref m18, .ref m19, .int shm])), (m1, .inl (G.2.1.1, 670, .inl ((it_X7_ends_7 w ring k).1))), (m18, .inl (G.2.1.1, 640, .inl ((it_X7_ends_7 w ring k).2)))]) (ws' := [(m0, .inr (10, [.int rz, .ref m1, .ref m2, .ref m3, .int hf, .int hs, .ref m6, .int len, .int ec, .int ep, .int pos, .int bg, .int bad, .ref m13, .ref m14, .int plc, .int sta, .ref m17, .ref m18, .ref m19, .int shm])), (m1, .inl (G.2.1.1, 670, .inl ((it_X7_ends_7 w ring k).1))), (m18, .inl (G.2.1.1, 640, .inl ((it_X7_ends_7 w ring k).2)))]) F (c_X7_floor l G ((f_X7_mismatchAt ((it_X7_ends_7 w ring k).1) (((it_X7_ends_7 w ring k).1) (Int32.toNatClampNeg (14 + (nI k))))) + ((f_X7_periodNow w) / 2)) (f_X7_periodNow w) hp) okS_X7_floor k_ml_X7_252 rfl rfl ⟨Nat.le_of_ble_eq_true rfl, Nat.le_of_ble_eq_true rfl⟩ hN hK hP hD hS hA [] [0, 1, 2] [0, 1, 2] (by decide) rfl rfl (by decide) (by decide) (by decide) rfl rfl rfl hl.1 (Nat.le_of_ble_eq_true rfl) dX7_ends_33 ⟨Nat.le_refl _, Nat.le_refl _⟩ (fun H locs hP hD hS => ?_)
        refine lv_istore (lv' := [(4, .int (f_X7_floor ((f_X7_mismatchAt ((it_X7_ends_7 w ring k).1) (((it_X7_ends_7 w ring k).1) (Int32.toNatClampNeg (14 + (nI k))))) + ((f_X7_periodNow w) / 2)) (f_X7_periodNow w))), (3, .int (f_X7_mismatchAt ((it_X7_ends_7 w ring k).1) (((it_X7_ends_7 w ring k).1) (Int32.toNatClampNeg (14 + (nI k)))))), (2, .int (nI k)), (1, .int (f_X7_periodNow w)), (0, .ref m0)]) hx hb dX7_ends_36 hl (by decide) rfl (fun ls hl => ?_)
        refine lv_iload hx hb dX7_ends_38 (lv_at hl 0 rfl) ?_
        refine lv_if_eq (tgt := 50) hx hb dX7_ends_40 (by decide) (fun c_3 => ?_) (fun c_3 => ?_)
        · skip
          refine lv_iload_n hx hb dX7_ends_50 rfl (lv_at hl 1 rfl) ?_
          refine lv_iload hx hb dX7_ends_51 (lv_at hl 0 rfl) ?_
          refine lv_iload_n hx hb dX7_ends_53 rfl (lv_at hl 3 rfl) ?_
          refine lv_imul hx hb dX7_ends_54 ?_
          refine lv_isub hx hb dX7_ends_55 ?_
          refine gS (As := [.int ((f_X7_mismatchAt ((it_X7_ends_7 w ring k).1) (((it_X7_ends_7 w ring k).1) (Int32.toNatClampNeg (14 + (nI k))))) - ((f_X7_floor ((f_X7_mismatchAt ((it_X7_ends_7 w ring k).1) (((it_X7_ends_7 w ring k).1) (Int32.toNatClampNeg (14 + (nI k))))) + ((f_X7_periodNow w) / 2)) (f_X7_periodNow w)) * (f_X7_periodNow w)))]) (rest := []) (wr := [(m0, .inr (10, [.int rz, .ref m1, .ref m2, .ref m3, .int hf, .int hs, .ref m6, .int len, .int ec, .int ep, .int pos, .int bg, .int bad, .ref m13, .ref m14, .int plc, .int sta, .ref m17, .ref m18, .ref m19, .int shm])), (m1, .inl (G.2.1.1, 670, .inl ((it_X7_ends_7 w ring k).1))), (m18, .inl (G.2.1.1, 640, .inl ((it_X7_ends_7 w ring k).2)))]) (ws' := [(m0, .inr (10, [.int rz, .ref m1, .ref m2, .ref m3, .int hf, .int hs, .ref m6, .int len, .int ec, .int ep, .int pos, .int bg, .int bad, .ref m13, .ref m14, .int plc, .int sta, .ref m17, .ref m18, .ref m19, .int shm])), (m1, .inl (G.2.1.1, 670, .inl ((it_X7_ends_7 w ring k).1))), (m18, .inl (G.2.1.1, 640, .inl ((it_X7_ends_7 w ring k).2)))]) F (c_X7_distance l G ((f_X7_mismatchAt ((it_X7_ends_7 w ring k).1) (((it_X7_ends_7 w ring k).1) (Int32.toNatClampNeg (14 + (nI k))))) - ((f_X7_floor ((f_X7_mismatchAt ((it_X7_ends_7 w ring k).1) (((it_X7_ends_7 w ring k).1) (Int32.toNatClampNeg (14 + (nI k))))) + ((f_X7_periodNow w) / 2)) (f_X7_periodNow w)) * (f_X7_periodNow w)))) okS_X7_distance k_ml_X7_233 rfl rfl ⟨Nat.le_of_ble_eq_true rfl, Nat.le_of_ble_eq_true rfl⟩ hN hK hP hD hS hA [] [0, 1, 2] [0, 1, 2] (by decide) rfl rfl (by decide) (by decide) (by decide) rfl rfl rfl hl.1 (Nat.le_of_ble_eq_true rfl) dX7_ends_56 ⟨Nat.le_refl _, Nat.le_refl _⟩ (fun H locs hP hD hS => ?_)
          refine lv_iload_n hx hb dX7_ends_59 rfl (lv_at hl 3 rfl) ?_
          refine lv_iconst (v := 4) hx hb dX7_ends_60 (by decide) ?_
          refine lv_idiv hx hb dX7_ends_61 (by decide) ?_
          refine lv_icmp_le (tgt := 70) hx hb dX7_ends_62 (by decide) (fun c_4 => ?_) (fun c_4 => ?_)
          · skip
            refine lv_iinc (v := (nI (k + 1))) (lv' := [(2, .int (nI (k + 1))), (4, .int (f_X7_floor ((f_X7_mismatchAt ((it_X7_ends_7 w ring k).1) (((it_X7_ends_7 w ring k).1) (Int32.toNatClampNeg (14 + (nI k))))) + ((f_X7_periodNow w) / 2)) (f_X7_periodNow w))), (3, .int (f_X7_mismatchAt ((it_X7_ends_7 w ring k).1) (((it_X7_ends_7 w ring k).1) (Int32.toNatClampNeg (14 + (nI k)))))), (1, .int (f_X7_periodNow w)), (0, .ref m0)]) hx hb dX7_ends_70 hl (k := 2) rfl (nI_1 k) (by decide) rfl (fun ls hl => ?_)
            refine lv_goto (tgt := 7) hx hb dX7_ends_73 (by decide) ?_
            have ek : (it_X7_ends_7 w ring (k + 1)) = (((it_X7_ends_7 w ring k).1), (it_X7_ends_7 w ring k).2) := ((if_pos c_3).trans (if_pos c_4))
            exact ih (k + 1) (by omega) _ _ (by rw [ek]; exact hP) (by rw [ek]; exact hD) hS ls (lv_sub hl [0, 3, 4] rfl)
          · skip
            refine lv_aload_n hx hb dX7_ends_65 rfl (lv_at hl 4 rfl) ?_
            refine lv_iload_n hx hb dX7_ends_66 rfl (lv_at hl 2 rfl) ?_
            refine gV (As := [.int (nI k)]) (rest := []) (wr := [(m18, .inl (G.2.1.1, 640, .inl ((it_X7_ends_7 w ring k).2)))]) (ws' := [(m0, .inr (10, [.int rz, .ref m1, .ref m2, .ref m3, .int hf, .int hs, .ref m6, .int len, .int ec, .int ep, .int pos, .int bg, .int bad, .ref m13, .ref m14, .int plc, .int sta, .ref m17, .ref m18, .ref m19, .int shm])), (m1, .inl (G.2.1.1, 670, .inl (f_X7_drops ((it_X7_ends_7 w ring k).1) (nI k)))), (m18, .inl (G.2.1.1, 640, .inl ((it_X7_ends_7 w ring k).2)))]) F (c_X7_drops l G m0 m1 m2 m3 m6 m13 m14 m17 m18 m19 rz hf hs len ec ep pos bg bad plc sta shm ((it_X7_ends_7 w ring k).1) (nI k) (Tk_nI hlt_k) (by rw [ends_lo hT k (by omega) 0 (by decide) (by decide)]; exact hT)) okV_X7_drops k_ml_X7_258 rfl rfl ⟨Nat.le_of_ble_eq_true rfl, Nat.le_of_ble_eq_true rfl⟩ hN hK hP hD hS hA [0, 1] [2] [1, 2, 0] (by decide) rfl rfl (by decide) (by decide) (by decide) rfl (q0 := 0) rfl rfl rfl rfl hl.1 (Nat.le_of_ble_eq_true rfl) dX7_ends_67 ⟨Nat.le_refl _, Nat.le_refl _⟩ (fun H locs hP hD hS => ?_)
            refine lv_iinc (v := (nI (k + 1))) (lv' := [(2, .int (nI (k + 1))), (4, .int (f_X7_floor ((f_X7_mismatchAt ((it_X7_ends_7 w ring k).1) (((it_X7_ends_7 w ring k).1) (Int32.toNatClampNeg (14 + (nI k))))) + ((f_X7_periodNow w) / 2)) (f_X7_periodNow w))), (3, .int (f_X7_mismatchAt ((it_X7_ends_7 w ring k).1) (((it_X7_ends_7 w ring k).1) (Int32.toNatClampNeg (14 + (nI k)))))), (1, .int (f_X7_periodNow w)), (0, .ref m0)]) hx hb dX7_ends_70 hl (k := 2) rfl (nI_1 k) (by decide) rfl (fun ls hl => ?_)
            refine lv_goto (tgt := 7) hx hb dX7_ends_73 (by decide) ?_
            have ek : (it_X7_ends_7 w ring (k + 1)) = ((f_X7_drops ((it_X7_ends_7 w ring k).1) (nI k)), (it_X7_ends_7 w ring k).2) := ((if_pos c_3).trans (if_neg c_4))
            exact ih (k + 1) (by omega) _ _ (by rw [ek]; exact hP) (by rw [ek]; exact hD) hS ls (lv_sub hl [0, 3, 4] rfl)
        · skip
          refine lv_aload_n hx hb dX7_ends_43 rfl (lv_at hl 4 rfl) ?_
          refine lv_iload_n hx hb dX7_ends_44 rfl (lv_at hl 2 rfl) ?_
          refine lv_iload hx hb dX7_ends_45 (lv_at hl 0 rfl) ?_
          refine gV (As := [.int (nI k), .int (f_X7_floor ((f_X7_mismatchAt ((it_X7_ends_7 w ring k).1) (((it_X7_ends_7 w ring k).1) (Int32.toNatClampNeg (14 + (nI k))))) + ((f_X7_periodNow w) / 2)) (f_X7_periodNow w))]) (rest := []) (wr := []) (ws' := [(m0, .inr (10, [.int rz, .ref m1, .ref m2, .ref m3, .int hf, .int hs, .ref m6, .int len, .int ec, .int ep, .int pos, .int bg, .int bad, .ref m13, .ref m14, .int plc, .int sta, .ref m17, .ref m18, .ref m19, .int shm])), (m1, .inl (G.2.1.1, 670, .inl ((f_X7_moves ((it_X7_ends_7 w ring k).1) ((it_X7_ends_7 w ring k).2) (nI k) (f_X7_floor ((f_X7_mismatchAt ((it_X7_ends_7 w ring k).1) (((it_X7_ends_7 w ring k).1) (Int32.toNatClampNeg (14 + (nI k))))) + ((f_X7_periodNow w) / 2)) (f_X7_periodNow w))).1))), (m18, .inl (G.2.1.1, 640, .inl ((f_X7_moves ((it_X7_ends_7 w ring k).1) ((it_X7_ends_7 w ring k).2) (nI k) (f_X7_floor ((f_X7_mismatchAt ((it_X7_ends_7 w ring k).1) (((it_X7_ends_7 w ring k).1) (Int32.toNatClampNeg (14 + (nI k))))) + ((f_X7_periodNow w) / 2)) (f_X7_periodNow w))).2)))]) F (c_X7_moves l G m0 m1 m2 m3 m6 m13 m14 m17 m18 m19 rz hf hs len ec ep pos bg bad plc sta shm ((it_X7_ends_7 w ring k).1) ((it_X7_ends_7 w ring k).2) (nI k) (f_X7_floor ((f_X7_mismatchAt ((it_X7_ends_7 w ring k).1) (((it_X7_ends_7 w ring k).1) (Int32.toNatClampNeg (14 + (nI k))))) + ((f_X7_periodNow w) / 2)) (f_X7_periodNow w)) (by have z0 := nI_toInt (n := k) (by omega); omega)) okV_X7_moves k_ml_X7_255 rfl rfl ⟨Nat.le_of_ble_eq_true rfl, Nat.le_of_ble_eq_true rfl⟩ hN hK hP hD hS hA [0, 1, 2] [] [0, 1, 2] (by decide) rfl rfl (by decide) (by decide) (by decide) rfl (q0 := 0) rfl rfl rfl rfl hl.1 (Nat.le_of_ble_eq_true rfl) dX7_ends_47 ⟨Nat.le_refl _, Nat.le_refl _⟩ (fun H locs hP hD hS => ?_)
          refine lv_iload_n hx hb dX7_ends_50 rfl (lv_at hl 1 rfl) ?_
          refine lv_iload hx hb dX7_ends_51 (lv_at hl 0 rfl) ?_
          refine lv_iload_n hx hb dX7_ends_53 rfl (lv_at hl 3 rfl) ?_
          refine lv_imul hx hb dX7_ends_54 ?_
          refine lv_isub hx hb dX7_ends_55 ?_
          refine gS (As := [.int ((f_X7_mismatchAt ((it_X7_ends_7 w ring k).1) (((it_X7_ends_7 w ring k).1) (Int32.toNatClampNeg (14 + (nI k))))) - ((f_X7_floor ((f_X7_mismatchAt ((it_X7_ends_7 w ring k).1) (((it_X7_ends_7 w ring k).1) (Int32.toNatClampNeg (14 + (nI k))))) + ((f_X7_periodNow w) / 2)) (f_X7_periodNow w)) * (f_X7_periodNow w)))]) (rest := []) (wr := [(m0, .inr (10, [.int rz, .ref m1, .ref m2, .ref m3, .int hf, .int hs, .ref m6, .int len, .int ec, .int ep, .int pos, .int bg, .int bad, .ref m13, .ref m14, .int plc, .int sta, .ref m17, .ref m18, .ref m19, .int shm])), (m1, .inl (G.2.1.1, 670, .inl ((f_X7_moves ((it_X7_ends_7 w ring k).1) ((it_X7_ends_7 w ring k).2) (nI k) (f_X7_floor ((f_X7_mismatchAt ((it_X7_ends_7 w ring k).1) (((it_X7_ends_7 w ring k).1) (Int32.toNatClampNeg (14 + (nI k))))) + ((f_X7_periodNow w) / 2)) (f_X7_periodNow w))).1))), (m18, .inl (G.2.1.1, 640, .inl ((f_X7_moves ((it_X7_ends_7 w ring k).1) ((it_X7_ends_7 w ring k).2) (nI k) (f_X7_floor ((f_X7_mismatchAt ((it_X7_ends_7 w ring k).1) (((it_X7_ends_7 w ring k).1) (Int32.toNatClampNeg (14 + (nI k))))) + ((f_X7_periodNow w) / 2)) (f_X7_periodNow w))).2)))]) (ws' := [(m0, .inr (10, [.int rz, .ref m1, .ref m2, .ref m3, .int hf, .int hs, .ref m6, .int len, .int ec, .int ep, .int pos, .int bg, .int bad, .ref m13, .ref m14, .int plc, .int sta, .ref m17, .ref m18, .ref m19, .int shm])), (m1, .inl (G.2.1.1, 670, .inl ((f_X7_moves ((it_X7_ends_7 w ring k).1) ((it_X7_ends_7 w ring k).2) (nI k) (f_X7_floor ((f_X7_mismatchAt ((it_X7_ends_7 w ring k).1) (((it_X7_ends_7 w ring k).1) (Int32.toNatClampNeg (14 + (nI k))))) + ((f_X7_periodNow w) / 2)) (f_X7_periodNow w))).1))), (m18, .inl (G.2.1.1, 640, .inl ((f_X7_moves ((it_X7_ends_7 w ring k).1) ((it_X7_ends_7 w ring k).2) (nI k) (f_X7_floor ((f_X7_mismatchAt ((it_X7_ends_7 w ring k).1) (((it_X7_ends_7 w ring k).1) (Int32.toNatClampNeg (14 + (nI k))))) + ((f_X7_periodNow w) / 2)) (f_X7_periodNow w))).2)))]) F (c_X7_distance l G ((f_X7_mismatchAt ((it_X7_ends_7 w ring k).1) (((it_X7_ends_7 w ring k).1) (Int32.toNatClampNeg (14 + (nI k))))) - ((f_X7_floor ((f_X7_mismatchAt ((it_X7_ends_7 w ring k).1) (((it_X7_ends_7 w ring k).1) (Int32.toNatClampNeg (14 + (nI k))))) + ((f_X7_periodNow w) / 2)) (f_X7_periodNow w)) * (f_X7_periodNow w)))) okS_X7_distance k_ml_X7_233 rfl rfl ⟨Nat.le_of_ble_eq_true rfl, Nat.le_of_ble_eq_true rfl⟩ hN hK hP hD hS hA [] [0, 1, 2] [0, 1, 2] (by decide) rfl rfl (by decide) (by decide) (by decide) rfl rfl rfl hl.1 (Nat.le_of_ble_eq_true rfl) dX7_ends_56 ⟨Nat.le_refl _, Nat.le_refl _⟩ (fun H locs hP hD hS => ?_)
          refine lv_iload_n hx hb dX7_ends_59 rfl (lv_at hl 3 rfl) ?_
          refine lv_iconst (v := 4) hx hb dX7_ends_60 (by decide) ?_
          refine lv_idiv hx hb dX7_ends_61 (by decide) ?_
          refine lv_icmp_le (tgt := 70) hx hb dX7_ends_62 (by decide) (fun c_5 => ?_) (fun c_5 => ?_)
          · skip
            refine lv_iinc (v := (nI (k + 1))) (lv' := [(2, .int (nI (k + 1))), (4, .int (f_X7_floor ((f_X7_mismatchAt ((it_X7_ends_7 w ring k).1) (((it_X7_ends_7 w ring k).1) (Int32.toNatClampNeg (14 + (nI k))))) + ((f_X7_periodNow w) / 2)) (f_X7_periodNow w))), (3, .int (f_X7_mismatchAt ((it_X7_ends_7 w ring k).1) (((it_X7_ends_7 w ring k).1) (Int32.toNatClampNeg (14 + (nI k)))))), (1, .int (f_X7_periodNow w)), (0, .ref m0)]) hx hb dX7_ends_70 hl (k := 2) rfl (nI_1 k) (by decide) rfl (fun ls hl => ?_)
            refine lv_goto (tgt := 7) hx hb dX7_ends_73 (by decide) ?_
            have ek : (it_X7_ends_7 w ring (k + 1)) = ((f_X7_moves ((it_X7_ends_7 w ring k).1) ((it_X7_ends_7 w ring k).2) (nI k) (f_X7_floor ((f_X7_mismatchAt ((it_X7_ends_7 w ring k).1) (((it_X7_ends_7 w ring k).1) (Int32.toNatClampNeg (14 + (nI k))))) + ((f_X7_periodNow w) / 2)) (f_X7_periodNow w))).1, (f_X7_moves ((it_X7_ends_7 w ring k).1) ((it_X7_ends_7 w ring k).2) (nI k) (f_X7_floor ((f_X7_mismatchAt ((it_X7_ends_7 w ring k).1) (((it_X7_ends_7 w ring k).1) (Int32.toNatClampNeg (14 + (nI k))))) + ((f_X7_periodNow w) / 2)) (f_X7_periodNow w))).2) := ((if_neg c_3).trans (if_pos c_5))
            exact ih (k + 1) (by omega) _ _ (by rw [ek]; exact hP) (by rw [ek]; exact hD) hS ls (lv_sub hl [0, 3, 4] rfl)
          · skip
            refine lv_aload_n hx hb dX7_ends_65 rfl (lv_at hl 4 rfl) ?_
            refine lv_iload_n hx hb dX7_ends_66 rfl (lv_at hl 2 rfl) ?_
            refine gV (As := [.int (nI k)]) (rest := []) (wr := [(m18, .inl (G.2.1.1, 640, .inl ((f_X7_moves ((it_X7_ends_7 w ring k).1) ((it_X7_ends_7 w ring k).2) (nI k) (f_X7_floor ((f_X7_mismatchAt ((it_X7_ends_7 w ring k).1) (((it_X7_ends_7 w ring k).1) (Int32.toNatClampNeg (14 + (nI k))))) + ((f_X7_periodNow w) / 2)) (f_X7_periodNow w))).2)))]) (ws' := [(m0, .inr (10, [.int rz, .ref m1, .ref m2, .ref m3, .int hf, .int hs, .ref m6, .int len, .int ec, .int ep, .int pos, .int bg, .int bad, .ref m13, .ref m14, .int plc, .int sta, .ref m17, .ref m18, .ref m19, .int shm])), (m1, .inl (G.2.1.1, 670, .inl (f_X7_drops ((f_X7_moves ((it_X7_ends_7 w ring k).1) ((it_X7_ends_7 w ring k).2) (nI k) (f_X7_floor ((f_X7_mismatchAt ((it_X7_ends_7 w ring k).1) (((it_X7_ends_7 w ring k).1) (Int32.toNatClampNeg (14 + (nI k))))) + ((f_X7_periodNow w) / 2)) (f_X7_periodNow w))).1) (nI k)))), (m18, .inl (G.2.1.1, 640, .inl ((f_X7_moves ((it_X7_ends_7 w ring k).1) ((it_X7_ends_7 w ring k).2) (nI k) (f_X7_floor ((f_X7_mismatchAt ((it_X7_ends_7 w ring k).1) (((it_X7_ends_7 w ring k).1) (Int32.toNatClampNeg (14 + (nI k))))) + ((f_X7_periodNow w) / 2)) (f_X7_periodNow w))).2)))]) F (c_X7_drops l G m0 m1 m2 m3 m6 m13 m14 m17 m18 m19 rz hf hs len ec ep pos bg bad plc sta shm ((f_X7_moves ((it_X7_ends_7 w ring k).1) ((it_X7_ends_7 w ring k).2) (nI k) (f_X7_floor ((f_X7_mismatchAt ((it_X7_ends_7 w ring k).1) (((it_X7_ends_7 w ring k).1) (Int32.toNatClampNeg (14 + (nI k))))) + ((f_X7_periodNow w) / 2)) (f_X7_periodNow w))).1) (nI k) (Tk_nI hlt_k) (by rw [moves_lo (Tk_nI hlt_k) (by decide), ends_lo hT k (by omega) 0 (by decide) (by decide)]; exact hT)) okV_X7_drops k_ml_X7_258 rfl rfl ⟨Nat.le_of_ble_eq_true rfl, Nat.le_of_ble_eq_true rfl⟩ hN hK hP hD hS hA [0, 1] [2] [1, 2, 0] (by decide) rfl rfl (by decide) (by decide) (by decide) rfl (q0 := 0) rfl rfl rfl rfl hl.1 (Nat.le_of_ble_eq_true rfl) dX7_ends_67 ⟨Nat.le_refl _, Nat.le_refl _⟩ (fun H locs hP hD hS => ?_)
            refine lv_iinc (v := (nI (k + 1))) (lv' := [(2, .int (nI (k + 1))), (4, .int (f_X7_floor ((f_X7_mismatchAt ((it_X7_ends_7 w ring k).1) (((it_X7_ends_7 w ring k).1) (Int32.toNatClampNeg (14 + (nI k))))) + ((f_X7_periodNow w) / 2)) (f_X7_periodNow w))), (3, .int (f_X7_mismatchAt ((it_X7_ends_7 w ring k).1) (((it_X7_ends_7 w ring k).1) (Int32.toNatClampNeg (14 + (nI k)))))), (1, .int (f_X7_periodNow w)), (0, .ref m0)]) hx hb dX7_ends_70 hl (k := 2) rfl (nI_1 k) (by decide) rfl (fun ls hl => ?_)
            refine lv_goto (tgt := 7) hx hb dX7_ends_73 (by decide) ?_
            have ek : (it_X7_ends_7 w ring (k + 1)) = ((f_X7_drops ((f_X7_moves ((it_X7_ends_7 w ring k).1) ((it_X7_ends_7 w ring k).2) (nI k) (f_X7_floor ((f_X7_mismatchAt ((it_X7_ends_7 w ring k).1) (((it_X7_ends_7 w ring k).1) (Int32.toNatClampNeg (14 + (nI k))))) + ((f_X7_periodNow w) / 2)) (f_X7_periodNow w))).1) (nI k)), (f_X7_moves ((it_X7_ends_7 w ring k).1) ((it_X7_ends_7 w ring k).2) (nI k) (f_X7_floor ((f_X7_mismatchAt ((it_X7_ends_7 w ring k).1) (((it_X7_ends_7 w ring k).1) (Int32.toNatClampNeg (14 + (nI k))))) + ((f_X7_periodNow w) / 2)) (f_X7_periodNow w))).2) := ((if_neg c_3).trans (if_neg c_5))
            exact ih (k + 1) (by omega) _ _ (by rw [ek]; exact hP) (by rw [ek]; exact hD) hS ls (lv_sub hl [0, 3, 4] rfl)
  exact loop_7 8 0 (by omega) _ _ hP hD hS ls (lv_sub hl [0, 1, 2] rfl)
theorem okV_X7_ends : gOkV yX7_ends cX7_ends 5 none 0 := ⟨⟨k_im_X7_ends, k_se_X7_ends, k_in_X7, k_cd_X7_ends⟩, by decide, by decide, by decide +kernel⟩
def st_X7_passes_2  (v0_ : Nat → Int32) (v1_ : Nat → Int32) : (Nat → Int32) × (Nat → Int32) :=
  if (((upd v0_ 0 ((v0_ 0) + 1)) 0) % 32) = 0 then
    ((f_X7_ends (upd v0_ 0 ((v0_ 0) + 1)) v1_).1, (f_X7_ends (upd v0_ 0 ((v0_ 0) + 1)) v1_).2)
  else
    ((upd v0_ 0 ((v0_ 0) + 1)), v1_)
def it_X7_passes_2 (w : Nat → Int32) (ring : Nat → Int32) : Nat → (Nat → Int32) × (Nat → Int32)
  | 0 => (w, ring)
  | i + 1 => st_X7_passes_2  (it_X7_passes_2 w ring i).1 (it_X7_passes_2 w ring i).2
def f_X7_passes (w : Nat → Int32) (ring : Nat → Int32) (nn : Nat) : (Nat → Int32) × (Nat → Int32) :=
  ((it_X7_passes_2 w ring nn).1, (it_X7_passes_2 w ring nn).2)

/-- the time and the clock's settings are in their ranges, with room for b minor cycles more -/
def RT (w : Nat → Int32) (b : Nat) : Prop := (0 ≤ (w 0).toInt ∧ (w 0).toInt + (b : Int) ≤ 200000000) ∧ RP w
theorem RT.le {w : Nat → Int32} {a b : Nat} (h : RT w b) (hab : a ≤ b) : RT w a := ⟨⟨h.1.1, by have := h.1.2; omega⟩, h.2⟩
theorem RT.tick {w : Nat → Int32} {b : Nat} (h : RT w (b + 1)) : (upd w 0 (w 0 + 1) 0).toInt = (w 0).toInt + 1 ∧ RT (upd w 0 (w 0 + 1)) b := by
  obtain ⟨⟨h1, h2⟩, h3⟩ := h
  have e : (1 : Int32).toInt = 1 := (by decide)
  have e1 := gI_add (x := w 0) (y := 1) (by omega) (by omega)
  have e2 : (upd w 0 (w 0 + 1) 0).toInt = (w 0).toInt + 1 := by rw [pus]; omega
  exact ⟨e2, ⟨by omega, by omega⟩, h3⟩
theorem RT.lt {w : Nat → Int32} {b : Nat} (h : RT w (b + 1)) : 0 ≤ (w 0).toInt ∧ (w 0).toInt < 200000000 := ⟨h.1.1, by have := h.1.2; omega⟩
theorem RT_ends {w ring : Nat → Int32} {b : Nat} (hT : (w 0).toInt < 200000000) (h : RT w b) : ((f_X7_ends w ring).1 0).toInt = (w 0).toInt ∧ RT (f_X7_ends w ring).1 b := by
  have e := ends_lo2 (ring := ring) ⟨h.1.1, hT⟩ (j := 0) (by decide) (by decide) (by decide)
  exact ⟨by rw [e], by rw [e]; exact h.1, RP_ends ⟨h.1.1, hT⟩ h.2⟩
theorem passes_inv {w ring : Nat → Int32} : ∀ k b, RT w (k + b + 1) → ((it_X7_passes_2 w ring k).1 0).toInt = (w 0).toInt + k ∧ RT (it_X7_passes_2 w ring k).1 (b + 1) := by
  intro k
  induction k with
  | zero => intro b h; exact ⟨by show (w 0).toInt = _; omega, h.le (by omega)⟩
  | succ k ih =>
    intro b h
    obtain ⟨e, h2⟩ := ih (b + 1) (h.le (by omega))
    obtain ⟨e3, h3⟩ := h2.tick
    have h4 : ((it_X7_passes_2 w ring k).1 0).toInt < 200000000 := h2.lt.2
    have h5 : (upd (it_X7_passes_2 w ring k).1 0 ((it_X7_passes_2 w ring k).1 0 + 1) 0).toInt < 200000000 := by have := h.1.2; omega
    show ((st_X7_passes_2 (it_X7_passes_2 w ring k).1 (it_X7_passes_2 w ring k).2).1 0).toInt = _ ∧ RT (st_X7_passes_2 (it_X7_passes_2 w ring k).1 (it_X7_passes_2 w ring k).2).1 (b + 1)
    unfold st_X7_passes_2
    split
    · have q := RT_ends (ring := (it_X7_passes_2 w ring k).2) h5 h3
      exact ⟨by show ((f_X7_ends _ _).1 0).toInt = _; rw [q.1, e3, e]; omega, q.2⟩
    · exact ⟨by show (upd (it_X7_passes_2 w ring k).1 0 ((it_X7_passes_2 w ring k).1 0 + 1) 0).toInt = _; rw [e3, e]; omega, h3⟩
theorem passes_lo {w ring : Nat → Int32} {j : Nat} (hj : j < 14) (h0 : j ≠ 0) (h7 : j ≠ 7) (h9 : j ≠ 9) : ∀ k, RT w (k + 1) → (it_X7_passes_2 w ring k).1 j = w j := by
  intro k
  induction k with
  | zero => intro _; rfl
  | succ k ih =>
    intro h
    obtain ⟨e, h2⟩ := passes_inv (w := w) (ring := ring) k 1 (h.le (by omega))
    obtain ⟨e3, h3⟩ := h2.tick
    have h5 : (upd (it_X7_passes_2 w ring k).1 0 ((it_X7_passes_2 w ring k).1 0 + 1) 0).toInt < 200000000 := by have := h.1.2; omega
    show (st_X7_passes_2 (it_X7_passes_2 w ring k).1 (it_X7_passes_2 w ring k).2).1 j = _
    unfold st_X7_passes_2
    split
    · show (f_X7_ends _ _).1 j = _
      rw [ends_lo2 ⟨h3.1.1, h5⟩ hj h7 h9, pu h0]; exact ih (h.le (by omega))
    · show upd (it_X7_passes_2 w ring k).1 0 ((it_X7_passes_2 w ring k).1 0 + 1) j = _
      rw [pu h0]; exact ih (h.le (by omega))
set_option maxRecDepth 100000 in
set_option maxHeartbeats 4000000 in
theorem c_X7_passes (l : Launch) (G : gG) (m0 : Nat) (m1 : Nat) (m2 : Nat) (m3 : Nat) (m6 : Nat) (m13 : Nat) (m14 : Nat) (m17 : Nat) (m18 : Nat) (m19 : Nat) (rz : Int32) (hf : Int32) (hs : Int32) (len : Int32) (ec : Int32) (ep : Int32) (pos : Int32) (bg : Int32) (bad : Int32) (plc : Int32) (sta : Int32) (shm : Int32) (w : Nat → Int32) (ring : Nat → Int32) (nn : Nat) (hT : RT w (nn + 1)) : gM l G yX7_passes cX7_passes 3 none { frames := 4, cells := 0, slots := 0, locals := 85 } [.ref m0, .int (nI nn)] [(m0, .inr (10, [.int rz, .ref m1, .ref m2, .ref m3, .int hf, .int hs, .ref m6, .int len, .int ec, .int ep, .int pos, .int bg, .int bad, .ref m13, .ref m14, .int plc, .int sta, .ref m17, .ref m18, .ref m19, .int shm])), (m1, .inl (G.2.1.1, 670, .inl w)), (m18, .inl (G.2.1.1, 640, .inl ring))] none [(m0, .inr (10, [.int rz, .ref m1, .ref m2, .ref m3, .int hf, .int hs, .ref m6, .int len, .int ec, .int ep, .int pos, .int bg, .int bad, .ref m13, .ref m14, .int plc, .int sta, .ref m17, .ref m18, .ref m19, .int shm])), (m1, .inl (G.2.1.1, 670, .inl ((f_X7_passes w ring nn).1))), (m18, .inl (G.2.1.1, 640, .inl ((f_X7_passes w ring nn).2)))] 0 0 := by
  refine gBegin (by decide +kernel) (Nat.le_of_ble_eq_true rfl) (fun p e s m args below meth c A F hr hlocks hname hN hK hP hD hA hS ls hl => ?_)
  obtain ⟨hx, hb, hml, hown, hts⟩ := id F
  replace hP : va_P G.1 vwCl [(m0, .inr (10, [.int rz, .ref m1, .ref m2, .ref m3, .int hf, .int hs, .ref m6, .int len, .int ec, .int ep, .int pos, .int bg, .int bad, .ref m13, .ref m14, .int plc, .int sta, .ref m17, .ref m18, .ref m19, .int shm])), (m1, .inl (G.2.1.1, 670, .inl w)), (m18, .inl (G.2.1.1, 640, .inl ring))] s.heap := hP
  replace hl : lv_has ls 3 [(0, .ref m0), (1, .int (nI nn))] := hl
  refine lv_iconst (v := 0) hx hb dX7_passes_0 (by decide) ?_
  refine lv_istore_n (lv' := [(2, .int 0), (0, .ref m0), (1, .int (nI nn))]) hx hb dX7_passes_1 rfl hl (by decide) rfl (fun ls hl => ?_)
  have loop_2 : ∀ (fu k : Nat), k + fu = nn → ∀ (H : Heap) (locs : List Loc), va_P G.1 vwCl [(m0, .inr (10, [.int rz, .ref m1, .ref m2, .ref m3, .int hf, .int hs, .ref m6, .int len, .int ec, .int ep, .int pos, .int bg, .int bad, .ref m13, .ref m14, .int plc, .int sta, .ref m17, .ref m18, .ref m19, .int shm])), (m1, .inl (G.2.1.1, 670, .inl ((it_X7_passes_2 w ring k).1))), (m18, .inl (G.2.1.1, 640, .inl ((it_X7_passes_2 w ring k).2)))] H → va_D A [(m0, .inr (10, [.int rz, .ref m1, .ref m2, .ref m3, .int hf, .int hs, .ref m6, .int len, .int ec, .int ep, .int pos, .int bg, .int bad, .ref m13, .ref m14, .int plc, .int sta, .ref m17, .ref m18, .ref m19, .int shm])), (m1, .inl (G.2.1.1, 670, .inl ((it_X7_passes_2 w ring k).1))), (m18, .inl (G.2.1.1, 640, .inl ((it_X7_passes_2 w ring k).2)))] → va_S A s.heap H locs → ∀ ls : Array Slot, lv_has ls 3 [(2, .int (nI k)), (0, .ref m0), (1, .int (nI nn))] → W p l e { frames := 4, cells := 0, slots := 0, locals := 85 } s m args below meth c H locs 0 0 (MQ below (gQ G none [(m0, .inr (10, [.int rz, .ref m1, .ref m2, .ref m3, .int hf, .int hs, .ref m6, .int len, .int ec, .int ep, .int pos, .int bg, .int bad, .ref m13, .ref m14, .int plc, .int sta, .ref m17, .ref m18, .ref m19, .int shm])), (m1, .inl (G.2.1.1, 670, .inl ((f_X7_passes w ring nn).1))), (m18, .inl (G.2.1.1, 640, .inl ((f_X7_passes w ring nn).2)))] A) args s 0 0 A) (F0 m 2 ls []) := by
    intro fu
    induction fu with
    | zero =>
      intro k hk H locs hP hD hS ls hl
      have ek : nn = k := by omega
      subst ek
      replace hP : va_P G.1 vwCl [(m0, .inr (10, [.int rz, .ref m1, .ref m2, .ref m3, .int hf, .int hs, .ref m6, .int len, .int ec, .int ep, .int pos, .int bg, .int bad, .ref m13, .ref m14, .int plc, .int sta, .ref m17, .ref m18, .ref m19, .int shm])), (m1, .inl (G.2.1.1, 670, .inl ((it_X7_passes_2 w ring nn).1))), (m18, .inl (G.2.1.1, 640, .inl ((it_X7_passes_2 w ring nn).2)))] H := hP
      replace hD : va_D A [(m0, .inr (10, [.int rz, .ref m1, .ref m2, .ref m3, .int hf, .int hs, .ref m6, .int len, .int ec, .int ep, .int pos, .int bg, .int bad, .ref m13, .ref m14, .int plc, .int sta, .ref m17, .ref m18, .ref m19, .int shm])), (m1, .inl (G.2.1.1, 670, .inl ((it_X7_passes_2 w ring nn).1))), (m18, .inl (G.2.1.1, 640, .inl ((it_X7_passes_2 w ring nn).2)))] := hD
      replace hl : lv_has ls 3 [(2, .int (nI nn)), (0, .ref m0), (1, .int (nI nn))] := hl
      refine lv_iload_n hx hb dX7_passes_2 rfl (lv_at hl 0 rfl) ?_
      refine lv_iload_n hx hb dX7_passes_3 rfl (lv_at hl 2 rfl) ?_
      refine lv_icmp_ge (tgt := 39) hx hb dX7_passes_4 (by decide) (fun c_1 => ?_) (fun c_1 => ?_)
      · skip
        exact gRetV F hr hlocks hK hP hD hS rfl rfl (Nat.le_of_ble_eq_true rfl) (Nat.le_of_ble_eq_true rfl) dX7_passes_39
      · exact absurd (Int32.le_refl _) c_1
    | succ fu ih =>
      intro k hk H locs hP hD hS ls hl
      have hlt_k : k < nn := by omega
      refine lv_iload_n hx hb dX7_passes_2 rfl (lv_at hl 0 rfl) ?_
      refine lv_iload_n hx hb dX7_passes_3 rfl (lv_at hl 2 rfl) ?_
      refine lv_icmp_ge (tgt := 39) hx hb dX7_passes_4 (by decide) (fun c_2 => ?_) (fun c_2 => ?_)
      · exact absurd c_2 (nI_ge hlt_k (by have := hT.1; omega))
      · skip
        refine lv_aload_n hx hb dX7_passes_7 rfl (lv_at hl 1 rfl) ?_
        refine va_get (D := G.1) (ci := 10) (v := .ref m1) (C := RX7) (T := TX7) (N := 21) hx hb hts in_X7 hown hK hP 0 rfl rfl 1 (by decide) (hts _ k_fl_X7_7) (fun _ h9 => h9) rfl dX7_passes_8 ?_
        refine lv_iconst (v := 0) hx hb dX7_passes_11 (by decide) ?_
        refine lv_dup2_11 hx hb dX7_passes_12 rfl rfl ?_
        refine gIald (k := 0) hx hb hK hP 1 0 rfl rfl (by decide) (gInL (by decide)) dX7_passes_13 ?_
        refine lv_iconst (v := 1) hx hb dX7_passes_14 (by decide) ?_
        refine lv_iadd hx hb dX7_passes_15 ?_
        refine gIast (k := 0) hx hb hK hP hD hS 1 0 rfl rfl (by decide) (gInL (by decide)) dX7_passes_16 (fun H locs hP hD hS => ?_)
        replace hP : va_P G.1 vwCl [(m0, .inr (10, [.int rz, .ref m1, .ref m2, .ref m3, .int hf, .int hs, .ref m6, .int len, .int ec, .int ep, .int pos, .int bg, .int bad, .ref m13, .ref m14, .int plc, .int sta, .ref m17, .ref m18, .ref m19, .int shm])), (m1, .inl (G.2.1.1, 670, .inl (upd ((it_X7_passes_2 w ring k).1) 0 ((((it_X7_passes_2 w ring k).1) 0) + 1)))), (m18, .inl (G.2.1.1, 640, .inl ((it_X7_passes_2 w ring k).2)))] H := hP
        replace hD : va_D A [(m0, .inr (10, [.int rz, .ref m1, .ref m2, .ref m3, .int hf, .int hs, .ref m6, .int len, .int ec, .int ep, .int pos, .int bg, .int bad, .ref m13, .ref m14, .int plc, .int sta, .ref m17, .ref m18, .ref m19, .int shm])), (m1, .inl (G.2.1.1, 670, .inl (upd ((it_X7_passes_2 w ring k).1) 0 ((((it_X7_passes_2 w ring k).1) 0) + 1)))), (m18, .inl (G.2.1.1, 640, .inl ((it_X7_passes_2 w ring k).2)))] := hD
        refine lv_aload_n hx hb dX7_passes_17 rfl (lv_at hl 1 rfl) ?_
        refine va_get (D := G.1) (ci := 10) (v := .ref m1) (C := RX7) (T := TX7) (N := 21) hx hb hts in_X7 hown hK hP 0 rfl rfl 1 (by decide) (hts _ k_fl_X7_7) (fun _ h9 => h9) rfl dX7_passes_18 ?_
        refine lv_iconst (v := 0) hx hb dX7_passes_21 (by decide) ?_
        refine gIald (k := 0) hx hb hK hP 1 0 rfl rfl (by decide) (gInL (by decide)) dX7_passes_22 ?_
        refine lv_bipush (v := 32) hx hb dX7_passes_23 (by decide) ?_
        refine gIrem hx hb dX7_passes_25 (by decide) ?_
        refine lv_if_ne (tgt := 33) hx hb dX7_passes_26 (by decide) (fun c_3 => ?_) (fun c_3 => ?_)
        · skip
          refine lv_iinc (v := (nI (k + 1))) (lv' := [(2, .int (nI (k + 1))), (0, .ref m0), (1, .int (nI nn))]) hx hb dX7_passes_33 hl (k := 0) rfl (nI_1 k) (by decide) rfl (fun ls hl => ?_)
          refine lv_goto (tgt := 2) hx hb dX7_passes_36 (by decide) ?_
          have ek : (it_X7_passes_2 w ring (k + 1)) = ((upd ((it_X7_passes_2 w ring k).1) 0 ((((it_X7_passes_2 w ring k).1) 0) + 1)), (it_X7_passes_2 w ring k).2) := (if_neg c_3)
          exact ih (k + 1) (by omega) _ _ (by rw [ek]; exact hP) (by rw [ek]; exact hD) hS ls (lv_sub hl [0, 1, 2] rfl)
        · skip
          refine lv_aload_n hx hb dX7_passes_29 rfl (lv_at hl 1 rfl) ?_
          refine gV (As := []) (rest := []) (wr := []) (ws' := [(m0, .inr (10, [.int rz, .ref m1, .ref m2, .ref m3, .int hf, .int hs, .ref m6, .int len, .int ec, .int ep, .int pos, .int bg, .int bad, .ref m13, .ref m14, .int plc, .int sta, .ref m17, .ref m18, .ref m19, .int shm])), (m1, .inl (G.2.1.1, 670, .inl ((f_X7_ends (upd ((it_X7_passes_2 w ring k).1) 0 ((((it_X7_passes_2 w ring k).1) 0) + 1)) ((it_X7_passes_2 w ring k).2)).1))), (m18, .inl (G.2.1.1, 640, .inl ((f_X7_ends (upd ((it_X7_passes_2 w ring k).1) 0 ((((it_X7_passes_2 w ring k).1) 0) + 1)) ((it_X7_passes_2 w ring k).2)).2)))]) F (c_X7_ends l G m0 m1 m2 m3 m6 m13 m14 m17 m18 m19 rz hf hs len ec ep pos bg bad plc sta shm (upd ((it_X7_passes_2 w ring k).1) 0 ((((it_X7_passes_2 w ring k).1) 0) + 1)) ((it_X7_passes_2 w ring k).2) (by obtain ⟨e, h2⟩ := passes_inv (w := w) (ring := ring) k 0 (hT.le (by omega)); obtain ⟨e3, h3⟩ := h2.tick; have := hT.1.2; exact ⟨h3.1.1, by omega⟩) (period_ne (passes_inv (w := w) (ring := ring) k 0 (hT.le (by omega))).2.2)) okV_X7_ends k_ml_X7_261 rfl rfl ⟨Nat.le_of_ble_eq_true rfl, Nat.le_of_ble_eq_true rfl⟩ hN hK hP hD hS hA [0, 1, 2] [] [0, 1, 2] (by decide) rfl rfl (by decide) (by decide) (by decide) rfl (q0 := 0) rfl rfl rfl rfl hl.1 (Nat.le_of_ble_eq_true rfl) dX7_passes_30 ⟨Nat.le_refl _, Nat.le_refl _⟩ (fun H locs hP hD hS => ?_)
          refine lv_iinc (v := (nI (k + 1))) (lv' := [(2, .int (nI (k + 1))), (0, .ref m0), (1, .int (nI nn))]) hx hb dX7_passes_33 hl (k := 0) rfl (nI_1 k) (by decide) rfl (fun ls hl => ?_)
          refine lv_goto (tgt := 2) hx hb dX7_passes_36 (by decide) ?_
          have ek : (it_X7_passes_2 w ring (k + 1)) = ((f_X7_ends (upd ((it_X7_passes_2 w ring k).1) 0 ((((it_X7_passes_2 w ring k).1) 0) + 1)) ((it_X7_passes_2 w ring k).2)).1, (f_X7_ends (upd ((it_X7_passes_2 w ring k).1) 0 ((((it_X7_passes_2 w ring k).1) 0) + 1)) ((it_X7_passes_2 w ring k).2)).2) := (if_pos c_3)
          exact ih (k + 1) (by omega) _ _ (by rw [ek]; exact hP) (by rw [ek]; exact hD) hS ls (lv_sub hl [0, 1, 2] rfl)
  exact loop_2 nn 0 (by omega) _ _ hP hD hS ls (lv_sub hl [0, 1, 2] rfl)
theorem okV_X7_passes : gOkV yX7_passes cX7_passes 3 none 1 := ⟨⟨k_im_X7_passes, k_se_X7_passes, k_in_X7, k_cd_X7_passes⟩, by decide, by decide, by decide +kernel⟩

theorem RT_passes {w ring : Nat → Int32} {n b : Nat} (h : RT w (n + b + 1)) : ((f_X7_passes w ring n).1 0).toInt = (w 0).toInt + n ∧ RT (f_X7_passes w ring n).1 (b + 1) := passes_inv n b h
theorem passes_cell {w ring : Nat → Int32} {n j : Nat} (h : RT w (n + 1)) (hj : j < 14) (h0 : j ≠ 0) (h7 : j ≠ 7) (h9 : j ≠ 9) : (f_X7_passes w ring n).1 j = w j := passes_lo hj h0 h7 h9 n h
/-- the waiting for a cycle -/
theorem wait_rng {c t : Int32} (hc : 0 ≤ c.toInt ∧ c.toInt < 32) (ht : 0 ≤ t.toInt) : (((c - (t % 32)) + 32) % 32).toInt = (c.toInt - t.toInt) % 32 ∧ (((c - (t % 32)) + 32) % 32).toNatClampNeg < 32 ∧ 0 ≤ (((c - (t % 32)) + 32) % 32).toInt := by
  have e := gI_modL (x := t) (y := 32) (d := 32) ht (by decide)
  have e32 : (32 : Int32).toInt = 32 := (by decide)
  have e1 := gI_sub (x := c) (y := t % 32) (by omega) (by omega)
  have e2 := gI_add (x := c - t % 32) (y := 32) (by omega) (by omega)
  have e3 := gI_modL (x := c - t % 32 + 32) (y := 32) (d := 32) (by omega) (by decide)
  have e4 := gI_clamp (x := (c - t % 32 + 32) % 32) (by omega)
  refine ⟨by omega, by omega, by omega⟩
def f_X7_waitsFor (w : Nat → Int32) (ring : Nat → Int32) (p0 : Int32) : (Nat → Int32) × (Nat → Int32) :=
  ((f_X7_passes (upd w 6 ((w 6) + (((p0 - ((w 0) % 32)) + 32) % 32))) ring (Int32.toNatClampNeg (((p0 - ((w 0) % 32)) + 32) % 32))).1, (f_X7_passes (upd w 6 ((w 6) + (((p0 - ((w 0) % 32)) + 32) % 32))) ring (Int32.toNatClampNeg (((p0 - ((w 0) % 32)) + 32) % 32))).2)
set_option maxRecDepth 100000 in
set_option maxHeartbeats 4000000 in
theorem c_X7_waitsFor (l : Launch) (G : gG) (m0 : Nat) (m1 : Nat) (m2 : Nat) (m3 : Nat) (m6 : Nat) (m13 : Nat) (m14 : Nat) (m17 : Nat) (m18 : Nat) (m19 : Nat) (rz : Int32) (hf : Int32) (hs : Int32) (len : Int32) (ec : Int32) (ep : Int32) (pos : Int32) (bg : Int32) (bad : Int32) (plc : Int32) (sta : Int32) (shm : Int32) (w : Nat → Int32) (ring : Nat → Int32) (p0 : Int32) (hc : 0 ≤ p0.toInt ∧ p0.toInt < 32) (hT : RT w 33) : gM l G yX7_waitsFor cX7_waitsFor 3 none { frames := 5, cells := 0, slots := 0, locals := 107 } [.ref m0, .int p0] [(m0, .inr (10, [.int rz, .ref m1, .ref m2, .ref m3, .int hf, .int hs, .ref m6, .int len, .int ec, .int ep, .int pos, .int bg, .int bad, .ref m13, .ref m14, .int plc, .int sta, .ref m17, .ref m18, .ref m19, .int shm])), (m1, .inl (G.2.1.1, 670, .inl w)), (m18, .inl (G.2.1.1, 640, .inl ring))] none [(m0, .inr (10, [.int rz, .ref m1, .ref m2, .ref m3, .int hf, .int hs, .ref m6, .int len, .int ec, .int ep, .int pos, .int bg, .int bad, .ref m13, .ref m14, .int plc, .int sta, .ref m17, .ref m18, .ref m19, .int shm])), (m1, .inl (G.2.1.1, 670, .inl ((f_X7_waitsFor w ring p0).1))), (m18, .inl (G.2.1.1, 640, .inl ((f_X7_waitsFor w ring p0).2)))] 0 0 := by
  refine gBegin (by decide +kernel) (Nat.le_of_ble_eq_true rfl) (fun p e s m args below meth c A F hr hlocks hname hN hK hP hD hA hS ls hl => ?_)
  obtain ⟨hx, hb, hml, hown, hts⟩ := id F
  replace hP : va_P G.1 vwCl [(m0, .inr (10, [.int rz, .ref m1, .ref m2, .ref m3, .int hf, .int hs, .ref m6, .int len, .int ec, .int ep, .int pos, .int bg, .int bad, .ref m13, .ref m14, .int plc, .int sta, .ref m17, .ref m18, .ref m19, .int shm])), (m1, .inl (G.2.1.1, 670, .inl w)), (m18, .inl (G.2.1.1, 640, .inl ring))] s.heap := hP
  replace hl : lv_has ls 3 [(0, .ref m0), (1, .int p0)] := hl
  refine lv_iload_n hx hb dX7_waitsFor_0 rfl (lv_at hl 1 rfl) ?_
  refine lv_aload_n hx hb dX7_waitsFor_1 rfl (lv_at hl 0 rfl) ?_
  refine va_get (D := G.1) (ci := 10) (v := .ref m1) (C := RX7) (T := TX7) (N := 21) hx hb hts in_X7 hown hK hP 0 rfl rfl 1 (by decide) (hts _ k_fl_X7_7) (fun _ h9 => h9) rfl dX7_waitsFor_2 ?_
  refine lv_iconst (v := 0) hx hb dX7_waitsFor_5 (by decide) ?_
  refine gIald (k := 0) hx hb hK hP 1 0 rfl rfl (by decide) (gInL (by decide)) dX7_waitsFor_6 ?_
  refine lv_bipush (v := 32) hx hb dX7_waitsFor_7 (by decide) ?_
  refine gIrem hx hb dX7_waitsFor_9 (by decide) ?_
  refine lv_isub hx hb dX7_waitsFor_10 ?_
  refine lv_bipush (v := 32) hx hb dX7_waitsFor_11 (by decide) ?_
  refine lv_iadd hx hb dX7_waitsFor_13 ?_
  refine lv_bipush (v := 32) hx hb dX7_waitsFor_14 (by decide) ?_
  refine gIrem hx hb dX7_waitsFor_16 (by decide) ?_
  refine lv_istore_n (lv' := [(2, .int (((p0 - ((w 0) % 32)) + 32) % 32)), (0, .ref m0), (1, .int p0)]) hx hb dX7_waitsFor_17 rfl hl (by decide) rfl (fun ls hl => ?_)
  refine lv_aload_n hx hb dX7_waitsFor_18 rfl (lv_at hl 1 rfl) ?_
  refine va_get (D := G.1) (ci := 10) (v := .ref m1) (C := RX7) (T := TX7) (N := 21) hx hb hts in_X7 hown hK hP 0 rfl rfl 1 (by decide) (hts _ k_fl_X7_7) (fun _ h9 => h9) rfl dX7_waitsFor_19 ?_
  refine lv_bipush (v := 6) hx hb dX7_waitsFor_22 (by decide) ?_
  refine lv_dup2_11 hx hb dX7_waitsFor_24 rfl rfl ?_
  refine gIald (k := 6) hx hb hK hP 1 0 rfl rfl (by decide) (gInL (by decide)) dX7_waitsFor_25 ?_
  refine lv_iload_n hx hb dX7_waitsFor_26 rfl (lv_at hl 0 rfl) ?_
  refine lv_iadd hx hb dX7_waitsFor_27 ?_
  refine gIast (k := 6) hx hb hK hP hD hS 1 0 rfl rfl (by decide) (gInL (by decide)) dX7_waitsFor_28 (fun H locs hP hD hS => ?_)
  replace hP : va_P G.1 vwCl [(m0, .inr (10, [.int rz, .ref m1, .ref m2, .ref m3, .int hf, .int hs, .ref m6, .int len, .int ec, .int ep, .int pos, .int bg, .int bad, .ref m13, .ref m14, .int plc, .int sta, .ref m17, .ref m18, .ref m19, .int shm])), (m1, .inl (G.2.1.1, 670, .inl (upd w 6 ((w 6) + (((p0 - ((w 0) % 32)) + 32) % 32))))), (m18, .inl (G.2.1.1, 640, .inl ring))] H := hP
  replace hD : va_D A [(m0, .inr (10, [.int rz, .ref m1, .ref m2, .ref m3, .int hf, .int hs, .ref m6, .int len, .int ec, .int ep, .int pos, .int bg, .int bad, .ref m13, .ref m14, .int plc, .int sta, .ref m17, .ref m18, .ref m19, .int shm])), (m1, .inl (G.2.1.1, 670, .inl (upd w 6 ((w 6) + (((p0 - ((w 0) % 32)) + 32) % 32))))), (m18, .inl (G.2.1.1, 640, .inl ring))] := hD
  refine lv_aload_n hx hb dX7_waitsFor_29 rfl (lv_at hl 1 rfl) ?_
  refine lv_iload_n hx hb dX7_waitsFor_30 rfl (lv_at hl 0 rfl) ?_
  refine W.eq (congrArg (fun z => F0 m _ ls [.int z, .ref m0]) (gI_nI (x := (((p0 - ((w 0) % 32)) + 32) % 32)) (by have hT0 := hT.1.1; (try have z2 := gI_modL (x := (w 0)) (y := 32) (d := 32) (by omega) (by decide)); have z2b := gI_modB (x := (w 0)) (y := 32) (d := 32) (by decide) (by decide); (try have z3 := gI_sub (x := p0) (y := ((w 0) % 32)) (by omega) (by omega)); have z4 : (32 : Int32).toInt = 32 := (by decide); (try have z5 := gI_add (x := (p0 - ((w 0) % 32))) (y := 32) (by omega) (by omega)); (try have z6 := gI_modL (x := ((p0 - ((w 0) % 32)) + 32)) (y := 32) (d := 32) (by omega) (by decide)); have z6b := gI_modB (x := ((p0 - ((w 0) % 32)) + 32)) (y := 32) (d := 32) (by decide) (by decide); omega) : (((p0 - ((w 0) % 32)) + 32) % 32) = nI (Int32.toNatClampNeg (((p0 - ((w 0) % 32)) + 32) % 32)))) ?_
  refine gV (As := [.int (nI (Int32.toNatClampNeg (((p0 - ((w 0) % 32)) + 32) % 32)))]) (rest := []) (wr := []) (ws' := [(m0, .inr (10, [.int rz, .ref m1, .ref m2, .ref m3, .int hf, .int hs, .ref m6, .int len, .int ec, .int ep, .int pos, .int bg, .int bad, .ref m13, .ref m14, .int plc, .int sta, .ref m17, .ref m18, .ref m19, .int shm])), (m1, .inl (G.2.1.1, 670, .inl ((f_X7_passes (upd w 6 ((w 6) + (((p0 - ((w 0) % 32)) + 32) % 32))) ring (Int32.toNatClampNeg (((p0 - ((w 0) % 32)) + 32) % 32))).1))), (m18, .inl (G.2.1.1, 640, .inl ((f_X7_passes (upd w 6 ((w 6) + (((p0 - ((w 0) % 32)) + 32) % 32))) ring (Int32.toNatClampNeg (((p0 - ((w 0) % 32)) + 32) % 32))).2)))]) F (c_X7_passes l G m0 m1 m2 m3 m6 m13 m14 m17 m18 m19 rz hf hs len ec ep pos bg bad plc sta shm (upd w 6 ((w 6) + (((p0 - ((w 0) % 32)) + 32) % 32))) ring (Int32.toNatClampNeg (((p0 - ((w 0) % 32)) + 32) % 32)) (RT.le (b := 33) hT (by have := (wait_rng hc hT.1.1).2.1; omega))) okV_X7_passes k_ml_X7_264 rfl rfl ⟨Nat.le_of_ble_eq_true rfl, Nat.le_of_ble_eq_true rfl⟩ hN hK hP hD hS hA [0, 1, 2] [] [0, 1, 2] (by decide) rfl rfl (by decide) (by decide) (by decide) rfl (q0 := 0) rfl rfl rfl rfl hl.1 (Nat.le_of_ble_eq_true rfl) dX7_waitsFor_31 ⟨Nat.le_refl _, Nat.le_refl _⟩ (fun H locs hP hD hS => ?_)
  exact gRetV F hr hlocks hK hP hD hS rfl rfl (Nat.le_of_ble_eq_true rfl) (Nat.le_of_ble_eq_true rfl) dX7_waitsFor_34
theorem okV_X7_waitsFor : gOkV yX7_waitsFor cX7_waitsFor 3 none 1 := ⟨⟨k_im_X7_waitsFor, k_se_X7_waitsFor, k_in_X7, k_cd_X7_waitsFor⟩, by decide, by decide, by decide +kernel⟩
