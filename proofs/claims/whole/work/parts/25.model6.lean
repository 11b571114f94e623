theorem cntLt {x : Int32} {k : Nat} (h : k < x.toNatClampNeg) : ¬ x ≤ nI k := by
  have h2 : x.toNatClampNeg = x.toInt.toNat := rfl
  have h3 := gI_hi x
  have e := nI_toInt (n := k) (by omega)
  rw [gI_le]; omega
theorem cntEq {x : Int32} (h : 0 ≤ x.toInt) : x ≤ nI x.toNatClampNeg := by
  rw [← gI_nI h]; exact Int32.le_refl _
theorem runs_step {w ring : Nat → Int32} {x p : Int32} (hp : 0 ≤ p.toInt ∧ p.toInt ≤ 500) (hI : EI w (100 * (501 - x.toNatClampNeg) + 1) ∧ 0 ≤ x.toInt ∧ x.toInt ≤ p.toInt) (hx : ¬ p ≤ x) : EI w 101 ∧ (EI (f_X7_executes w ring).2.1 (100 * (501 - (x + 1).toNatClampNeg) + 1) ∧ 0 ≤ (x + 1).toInt ∧ (x + 1).toInt ≤ p.toInt) ∧ (EI (f_X7_executes w ring).2.1 (100 * (501 - (x + 0).toNatClampNeg) + 1 - 100) ∧ 0 ≤ (x + 0).toInt ∧ (x + 0).toInt ≤ p.toInt) ∧ 501 - (x + 1).toNatClampNeg < 501 - x.toNatClampNeg := by
  rw [gI_le] at hx
  obtain ⟨h, h0, h1⟩ := hI
  have e := gI_clamp h0
  have e1 : (1 : Int32).toInt = 1 := (by decide)
  have e0 : (0 : Int32).toInt = 0 := (by decide)
  have e2 := gI_add (x := x) (y := 1) (by omega) (by omega)
  have e3 := gI_add (x := x) (y := 0) (by omega) (by omega)
  have e4 := gI_clamp (x := x + 1) (by omega)
  have e5 := gI_clamp (x := x + 0) (by omega)
  refine ⟨h.le (by omega), ⟨EI_executes (h.le (by omega)), by omega, by omega⟩, ⟨EI_executes (h.le (by omega)), by omega, by omega⟩, by omega⟩
def wl_X7_runs (w : Nat → Int32) (ring : Nat → Int32) (p0 : Int32) : Nat → (Nat → Int32) → (Nat → Int32) → Int32 → Int32 → Int32 × (Nat → Int32) × (Nat → Int32)
  | 0, _, _, _, _ => (0, w, ring)
  | n + 1, z1, z2, x2, x3 =>
    if x3 = 0 then
      (x2, z1, z2)
    else
      if p0 ≤ x2 then
        (x2, z1, z2)
      else
        if (z1 4) = 0 then
          if (f_X7_executes z1 z2).1 = 0 then
            wl_X7_runs w ring p0 n ((f_X7_executes z1 z2).2.1) ((f_X7_executes z1 z2).2.2) (x2 + 0) ((f_X7_executes z1 z2).1)
          else
            wl_X7_runs w ring p0 n ((f_X7_executes z1 z2).2.1) ((f_X7_executes z1 z2).2.2) (x2 + 1) ((f_X7_executes z1 z2).1)
        else
          (x2, z1, z2)
def f_X7_runs (w : Nat → Int32) (ring : Nat → Int32) (p0 : Int32) : Int32 × (Nat → Int32) × (Nat → Int32) :=
  (wl_X7_runs w ring p0 502 w ring 0 1)
set_option maxRecDepth 100000 in
set_option maxHeartbeats 4000000 in
theorem c_X7_runs (l : Launch) (G : gG) (m0 : Nat) (m1 : Nat) (m2 : Nat) (m3 : Nat) (m6 : Nat) (m13 : Nat) (m14 : Nat) (m17 : Nat) (m18 : Nat) (m19 : Nat) (rz : Int32) (hf : Int32) (hs : Int32) (len : Int32) (ec : Int32) (ep : Int32) (pos : Int32) (bg : Int32) (bad : Int32) (plc : Int32) (sta : Int32) (shm : Int32) (w : Nat → Int32) (ring : Nat → Int32) (p0 : Int32) (hcnt : 0 ≤ p0.toInt ∧ p0.toInt ≤ 500) (hE : EI w 50101) : gM l G yX7_runs cX7_runs 4 (some .int) { frames := 8, cells := 0, slots := 0, locals := 177 } [.ref m0, .int p0] [(m0, .inr (10, [.int rz, .ref m1, .ref m2, .ref m3, .int hf, .int hs, .ref m6, .int len, .int ec, .int ep, .int pos, .int bg, .int bad, .ref m13, .ref m14, .int plc, .int sta, .ref m17, .ref m18, .ref m19, .int shm])), (m1, .inl (G.2.1.1, 670, .inl w)), (m18, .inl (G.2.1.1, 640, .inl ring))] (some (.int ((f_X7_runs w ring p0).1))) [(m0, .inr (10, [.int rz, .ref m1, .ref m2, .ref m3, .int hf, .int hs, .ref m6, .int len, .int ec, .int ep, .int pos, .int bg, .int bad, .ref m13, .ref m14, .int plc, .int sta, .ref m17, .ref m18, .ref m19, .int shm])), (m1, .inl (G.2.1.1, 670, .inl ((f_X7_runs w ring p0).2.1))), (m18, .inl (G.2.1.1, 640, .inl ((f_X7_runs w ring p0).2.2)))] 0 0 := by
  refine gBegin (by decide +kernel) (Nat.le_of_ble_eq_true rfl) (fun p e s m args below meth c A F hr hlocks hname hN hK hP hD hA hS ls hl => ?_)
  obtain ⟨hx, hb, hml, hown, hts⟩ := id F
  replace hP : va_P G.1 vwCl [(m0, .inr (10, [.int rz, .ref m1, .ref m2, .ref m3, .int hf, .int hs, .ref m6, .int len, .int ec, .int ep, .int pos, .int bg, .int bad, .ref m13, .ref m14, .int plc, .int sta, .ref m17, .ref m18, .ref m19, .int shm])), (m1, .inl (G.2.1.1, 670, .inl w)), (m18, .inl (G.2.1.1, 640, .inl ring))] s.heap := hP
  replace hl : lv_has ls 4 [(0, .ref m0), (1, .int p0)] := hl
  refine lv_iconst (v := 0) hx hb dX7_runs_0 (by decide) ?_
  refine lv_istore_n (lv' := [(2, .int 0), (0, .ref m0), (1, .int p0)]) hx hb dX7_runs_1 rfl hl (by decide) rfl (fun ls hl => ?_)
  refine lv_iconst (v := 1) hx hb dX7_runs_2 (by decide) ?_
  refine lv_istore_n (lv' := [(3, .int 1), (2, .int 0), (0, .ref m0), (1, .int p0)]) hx hb dX7_runs_3 rfl hl (by decide) rfl (fun ls hl => ?_)
  have loop_4 : ∀ (fu : Nat) (z1 : Nat → Int32) (z2 : Nat → Int32) (x2 : Int32) (x3 : Int32), ((if x3 = 0 then EI z1 (100 * (501 - x2.toNatClampNeg) + 1 - 100) else EI z1 (100 * (501 - x2.toNatClampNeg) + 1)) ∧ 0 ≤ x2.toInt ∧ x2.toInt ≤ p0.toInt) → (if x3 = 0 then 0 else 501 - x2.toNatClampNeg) < fu → (f_X7_runs w ring p0) = wl_X7_runs w ring p0 fu z1 z2 x2 x3 → ∀ (H : Heap) (locs : List Loc), va_P G.1 vwCl [(m0, .inr (10, [.int rz, .ref m1, .ref m2, .ref m3, .int hf, .int hs, .ref m6, .int len, .int ec, .int ep, .int pos, .int bg, .int bad, .ref m13, .ref m14, .int plc, .int sta, .ref m17, .ref m18, .ref m19, .int shm])), (m1, .inl (G.2.1.1, 670, .inl z1)), (m18, .inl (G.2.1.1, 640, .inl z2))] H → va_D A [(m0, .inr (10, [.int rz, .ref m1, .ref m2, .ref m3, .int hf, .int hs, .ref m6, .int len, .int ec, .int ep, .int pos, .int bg, .int bad, .ref m13, .ref m14, .int plc, .int sta, .ref m17, .ref m18, .ref m19, .int shm])), (m1, .inl (G.2.1.1, 670, .inl z1)), (m18, .inl (G.2.1.1, 640, .inl z2))] → va_S A s.heap H locs → ∀ ls : Array Slot, lv_has ls 4 [(3, .int x3), (2, .int x2), (0, .ref m0), (1, .int p0)] → W p l e { frames := 8, cells := 0, slots := 0, locals := 177 } s m args below meth c H locs 0 0 (MQ below (gQ G (some (.int ((f_X7_runs w ring p0).1))) [(m0, .inr (10, [.int rz, .ref m1, .ref m2, .ref m3, .int hf, .int hs, .ref m6, .int len, .int ec, .int ep, .int pos, .int bg, .int bad, .ref m13, .ref m14, .int plc, .int sta, .ref m17, .ref m18, .ref m19, .int shm])), (m1, .inl (G.2.1.1, 670, .inl ((f_X7_runs w ring p0).2.1))), (m18, .inl (G.2.1.1, 640, .inl ((f_X7_runs w ring p0).2.2)))] A) args s 0 0 A) (F0 m 4 ls []) := by
    intro fu
    induction fu with
    | zero =>
      intro z1 z2 x2 x3 hI hn
      exact absurd hn (Nat.not_lt_zero _)
    | succ fu ih =>
      intro z1 z2 x2 x3 hI hn hO H locs hP hD hS ls hl
      refine lv_iload_n hx hb dX7_runs_4 rfl (lv_at hl 0 rfl) ?_
      refine lv_if_eq (tgt := 42) hx hb dX7_runs_5 (by decide) (fun c_1 => ?_) (fun c_1 => ?_)
      · skip
        refine lv_iload_n hx hb dX7_runs_42 rfl (lv_at hl 1 rfl) ?_
        have ef : (f_X7_runs w ring p0) = (x2, z1, z2) := (hO.trans (if_pos c_1))
        exact gRetI F hr hlocks hK hP hD hS (by rw [ef]) (by rw [ef]) (Nat.le_of_ble_eq_true rfl) (Nat.le_of_ble_eq_true rfl) dX7_runs_43
      · skip
        refine lv_iload_n hx hb dX7_runs_8 rfl (lv_at hl 1 rfl) ?_
        refine lv_iload_n hx hb dX7_runs_9 rfl (lv_at hl 3 rfl) ?_
        refine lv_icmp_ge (tgt := 42) hx hb dX7_runs_10 (by decide) (fun c_2 => ?_) (fun c_2 => ?_)
        · skip
          refine lv_iload_n hx hb dX7_runs_42 rfl (lv_at hl 1 rfl) ?_
          have ef : (f_X7_runs w ring p0) = (x2, z1, z2) := (hO.trans (((if_neg c_1).trans (if_pos c_2))))
          exact gRetI F hr hlocks hK hP hD hS (by rw [ef]) (by rw [ef]) (Nat.le_of_ble_eq_true rfl) (Nat.le_of_ble_eq_true rfl) dX7_runs_43
        · skip
          refine lv_aload_n hx hb dX7_runs_13 rfl (lv_at hl 2 rfl) ?_
          refine va_get (D := G.1) (ci := 10) (v := .ref m1) (C := RX7) (T := TX7) (N := 21) hx hb hts in_X7 hown hK hP 0 rfl rfl 1 (by decide) (hts _ k_fl_X7_7) (fun _ h9 => h9) rfl dX7_runs_14 ?_
          refine lv_iconst (v := 4) hx hb dX7_runs_17 (by decide) ?_
          refine gIald (k := 4) hx hb hK hP 1 0 rfl rfl (by decide) (gInL (by decide)) dX7_runs_18 ?_
          refine lv_if_ne (tgt := 42) hx hb dX7_runs_19 (by decide) (fun c_3 => ?_) (fun c_3 => ?_)
          · skip
            refine lv_iload_n hx hb dX7_runs_42 rfl (lv_at hl 1 rfl) ?_
            have ef : (f_X7_runs w ring p0) = (x2, z1, z2) := (hO.trans (((if_neg c_1).trans ((if_neg c_2).trans (if_neg c_3)))))
            exact gRetI F hr hlocks hK hP hD hS (by rw [ef]) (by rw [ef]) (Nat.le_of_ble_eq_true rfl) (Nat.le_of_ble_eq_true rfl) dX7_runs_43
          · skip
            refine lv_aload_n hx hb dX7_runs_22 rfl (lv_at hl 2 rfl) ?_
            refine gV (As := []) (rest := []) (wr := []) (ws' := [(m0, .inr (10, [.int rz, .ref m1, .ref m2, .ref m3, .int hf, .int hs, .ref m6, .int len, .int ec, .int ep, .int pos, .int bg, .int bad, .ref m13, .ref m14, .int plc, .int sta, .ref m17, .ref m18, .ref m19, .int shm])), (m1, .inl (G.2.1.1, 670, .inl ((f_X7_executes z1 z2).2.1))), (m18, .inl (G.2.1.1, 640, .inl ((f_X7_executes z1 z2).2.2)))]) F (c_X7_executes l G m0 m1 m2 m3 m6 m13 m14 m17 m18 m19 rz hf hs len ec ep pos bg bad plc sta shm z1 z2 (runs_step (ring := z2) hcnt (by have h9 := hI; rw [if_neg c_1] at h9; exact h9) c_2).1) okV_X7_executes k_ml_X7_304 rfl rfl ⟨Nat.le_of_ble_eq_true rfl, Nat.le_of_ble_eq_true rfl⟩ hN hK hP hD hS hA [0, 1, 2] [] [0, 1, 2] (by decide) rfl rfl (by decide) (by decide) (by decide) rfl (q0 := 0) rfl rfl rfl rfl hl.1 (Nat.le_of_ble_eq_true rfl) dX7_runs_23 ⟨Nat.le_refl _, Nat.le_refl _⟩ (fun H locs hP hD hS => ?_)
            refine lv_istore_n (lv' := [(3, .int ((f_X7_executes z1 z2).1)), (2, .int x2), (0, .ref m0), (1, .int p0)]) hx hb dX7_runs_26 rfl hl (by decide) rfl (fun ls hl => ?_)
            refine lv_iload_n hx hb dX7_runs_27 rfl (lv_at hl 1 rfl) ?_
            refine lv_iload_n hx hb dX7_runs_28 rfl (lv_at hl 0 rfl) ?_
            refine lv_if_eq (tgt := 36) hx hb dX7_runs_29 (by decide) (fun c_4 => ?_) (fun c_4 => ?_)
            · skip
              refine lv_iconst (v := 0) hx hb dX7_runs_36 (by decide) ?_
              refine lv_iadd hx hb dX7_runs_37 ?_
              refine lv_istore_n (lv' := [(2, .int (x2 + 0)), (3, .int ((f_X7_executes z1 z2).1)), (0, .ref m0), (1, .int p0)]) hx hb dX7_runs_38 rfl hl (by decide) rfl (fun ls hl => ?_)
              refine lv_goto (tgt := 4) hx hb dX7_runs_39 (by decide) ?_
              exact ih ((f_X7_executes z1 z2).2.1) ((f_X7_executes z1 z2).2.2) (x2 + 0) ((f_X7_executes z1 z2).1) (by rw [if_pos c_4]; exact (runs_step (ring := z2) hcnt (by have h9 := hI; rw [if_neg c_1] at h9; exact h9) c_2).2.2.1) (by rw [if_pos c_4]; have hn2 := hn; have hf := (runs_step (ring := z2) hcnt (by have h9 := hI; rw [if_neg c_1] at h9; exact h9) c_2).2.2.2; rw [if_neg c_1] at hn2; omega) (hO.trans (((if_neg c_1).trans ((if_neg c_2).trans ((if_pos c_3).trans (if_pos c_4)))))) _ _ hP hD hS ls (lv_sub hl [1, 0, 2, 3] rfl)
            · skip
              refine lv_iconst (v := 1) hx hb dX7_runs_32 (by decide) ?_
              refine lv_goto (tgt := 37) hx hb dX7_runs_33 (by decide) ?_
              refine lv_iadd hx hb dX7_runs_37 ?_
              refine lv_istore_n (lv' := [(2, .int (x2 + 1)), (3, .int ((f_X7_executes z1 z2).1)), (0, .ref m0), (1, .int p0)]) hx hb dX7_runs_38 rfl hl (by decide) rfl (fun ls hl => ?_)
              refine lv_goto (tgt := 4) hx hb dX7_runs_39 (by decide) ?_
              exact ih ((f_X7_executes z1 z2).2.1) ((f_X7_executes z1 z2).2.2) (x2 + 1) ((f_X7_executes z1 z2).1) (by rw [if_neg c_4]; exact (runs_step (ring := z2) hcnt (by have h9 := hI; rw [if_neg c_1] at h9; exact h9) c_2).2.1) (by rw [if_neg c_4]; have hf := (runs_step (ring := z2) hcnt (by have h9 := hI; rw [if_neg c_1] at h9; exact h9) c_2).2.2.2; have hn2 := hn; rw [if_neg c_1] at hn2; omega) (hO.trans (((if_neg c_1).trans ((if_neg c_2).trans ((if_pos c_3).trans (if_neg c_4)))))) _ _ hP hD hS ls (lv_sub hl [1, 0, 2, 3] rfl)
  exact loop_4 502 w ring 0 1 (by rw [if_neg (by decide)]; exact ⟨hE.le (by decide), by decide, hcnt.1⟩) (by decide) rfl _ _ hP hD hS ls (lv_sub hl [0, 1, 2, 3] rfl)
theorem okV_X7_runs : gOkV yX7_runs cX7_runs 4 (some .int) 1 := ⟨⟨k_im_X7_runs, k_se_X7_runs, k_in_X7, k_cd_X7_runs⟩, by decide, by decide, by decide +kernel⟩
def f_X7_start (w : Nat → Int32) (p0 : Int32) (p1 : Int32) : Int32 × (Nat → Int32) :=
  if (f_X7_isLocation p0 p1) = 0 then
    (1, w)
  else
    (0, (upd (upd w 4 0) 3 ((32 * p0) + p1)))
set_option maxRecDepth 100000 in
set_option maxHeartbeats 4000000 in
theorem c_X7_start (l : Launch) (G : gG) (m0 : Nat) (m1 : Nat) (m2 : Nat) (m3 : Nat) (m6 : Nat) (m13 : Nat) (m14 : Nat) (m17 : Nat) (m18 : Nat) (m19 : Nat) (rz : Int32) (hf : Int32) (hs : Int32) (len : Int32) (ec : Int32) (ep : Int32) (pos : Int32) (bg : Int32) (bad : Int32) (plc : Int32) (sta : Int32) (shm : Int32) (w : Nat → Int32) (p0 : Int32) (p1 : Int32) : gM l G yX7_start cX7_start 3 none { frames := 3, cells := 0, slots := 0, locals := 66 } [.ref m0, .int p0, .int p1] [(m0, .inr (10, [.int rz, .ref m1, .ref m2, .ref m3, .int hf, .int hs, .ref m6, .int len, .int ec, .int ep, .int pos, .int bg, .int bad, .ref m13, .ref m14, .int plc, .int sta, .ref m17, .ref m18, .ref m19, .int shm])), (m1, .inl (G.2.1.1, 670, .inl w))] none [(m0, .inr (10, [.int ((f_X7_start w p0 p1).1), .ref m1, .ref m2, .ref m3, .int hf, .int hs, .ref m6, .int len, .int ec, .int ep, .int pos, .int bg, .int bad, .ref m13, .ref m14, .int plc, .int sta, .ref m17, .ref m18, .ref m19, .int shm])), (m1, .inl (G.2.1.1, 670, .inl ((f_X7_start w p0 p1).2)))] 0 0 := by
  refine gBegin (by decide +kernel) (Nat.le_of_ble_eq_true rfl) (fun p e s m args below meth c A F hr hlocks hname hN hK hP hD hA hS ls hl => ?_)
  obtain ⟨hx, hb, hml, hown, hts⟩ := id F
  replace hP : va_P G.1 vwCl [(m0, .inr (10, [.int rz, .ref m1, .ref m2, .ref m3, .int hf, .int hs, .ref m6, .int len, .int ec, .int ep, .int pos, .int bg, .int bad, .ref m13, .ref m14, .int plc, .int sta, .ref m17, .ref m18, .ref m19, .int shm])), (m1, .inl (G.2.1.1, 670, .inl w))] s.heap := hP
  replace hl : lv_has ls 3 [(0, .ref m0), (1, .int p0), (2, .int p1)] := hl
  refine lv_aload_n hx hb dX7_start_0 rfl (lv_at hl 0 rfl) ?_
  refine lv_iconst (v := 0) hx hb dX7_start_1 (by decide) ?_
  refine va_put (D := G.1) (ci := 10) (v := .int 0) (ty := .int) (C := RX7) (T := TX7) (N := 21) hx hb hts in_X7 tyX7 tyX7_ok nmX7 hown hK hP hD hS 0 rfl rfl 0 (by decide) (hts _ k_fl_X7_76) (fun _ h9 => h9) rfl (by decide +kernel) rfl rfl (Nat.le_of_ble_eq_true rfl) dX7_start_2 (fun H locs hP hD hS => ?_)
  replace hP : va_P G.1 vwCl [(m0, .inr (10, [.int 0, .ref m1, .ref m2, .ref m3, .int hf, .int hs, .ref m6, .int len, .int ec, .int ep, .int pos, .int bg, .int bad, .ref m13, .ref m14, .int plc, .int sta, .ref m17, .ref m18, .ref m19, .int shm])), (m1, .inl (G.2.1.1, 670, .inl w))] H := hP
  replace hD : va_D A [(m0, .inr (10, [.int 0, .ref m1, .ref m2, .ref m3, .int hf, .int hs, .ref m6, .int len, .int ec, .int ep, .int pos, .int bg, .int bad, .ref m13, .ref m14, .int plc, .int sta, .ref m17, .ref m18, .ref m19, .int shm])), (m1, .inl (G.2.1.1, 670, .inl w))] := hD
  refine lv_iload_n hx hb dX7_start_5 rfl (lv_at hl 1 rfl) ?_
  refine lv_iload_n hx hb dX7_start_6 rfl (lv_at hl 2 rfl) ?_
  refine gS (As := [.int p0, .int p1]) (rest := []) (wr := [(m0, .inr (10, [.int 0, .ref m1, .ref m2, .ref m3, .int hf, .int hs, .ref m6, .int len, .int ec, .int ep, .int pos, .int bg, .int bad, .ref m13, .ref m14, .int plc, .int sta, .ref m17, .ref m18, .ref m19, .int shm])), (m1, .inl (G.2.1.1, 670, .inl w))]) (ws' := [(m0, .inr (10, [.int 0, .ref m1, .ref m2, .ref m3, .int hf, .int hs, .ref m6, .int len, .int ec, .int ep, .int pos, .int bg, .int bad, .ref m13, .ref m14, .int plc, .int sta, .ref m17, .ref m18, .ref m19, .int shm])), (m1, .inl (G.2.1.1, 670, .inl w))]) F (c_X7_isLocation l G p0 p1) okS_X7_isLocation k_ml_X7_193 rfl rfl ⟨Nat.le_of_ble_eq_true rfl, Nat.le_of_ble_eq_true rfl⟩ hN hK hP hD hS hA [] [0, 1] [0, 1] (by decide) rfl rfl (by decide) (by decide) (by decide) rfl rfl rfl hl.1 (Nat.le_of_ble_eq_true rfl) dX7_start_7 ⟨Nat.le_refl _, Nat.le_refl _⟩ (fun H locs hP hD hS => ?_)
  refine lv_if_ne (tgt := 19) hx hb dX7_start_10 (by decide) (fun c_1 => ?_) (fun c_1 => ?_)
  · skip
    refine lv_aload_n hx hb dX7_start_19 rfl (lv_at hl 0 rfl) ?_
    refine va_get (D := G.1) (ci := 10) (v := .ref m1) (C := RX7) (T := TX7) (N := 21) hx hb hts in_X7 hown hK hP 0 rfl rfl 1 (by decide) (hts _ k_fl_X7_7) (fun _ h9 => h9) rfl dX7_start_20 ?_
    refine lv_iconst (v := 4) hx hb dX7_start_23 (by decide) ?_
    refine lv_iconst (v := 0) hx hb dX7_start_24 (by decide) ?_
    refine gIast (k := 4) hx hb hK hP hD hS 1 0 rfl rfl (by decide) (gInL (by decide)) dX7_start_25 (fun H locs hP hD hS => ?_)
    replace hP : va_P G.1 vwCl [(m0, .inr (10, [.int 0, .ref m1, .ref m2, .ref m3, .int hf, .int hs, .ref m6, .int len, .int ec, .int ep, .int pos, .int bg, .int bad, .ref m13, .ref m14, .int plc, .int sta, .ref m17, .ref m18, .ref m19, .int shm])), (m1, .inl (G.2.1.1, 670, .inl (upd w 4 0)))] H := hP
    replace hD : va_D A [(m0, .inr (10, [.int 0, .ref m1, .ref m2, .ref m3, .int hf, .int hs, .ref m6, .int len, .int ec, .int ep, .int pos, .int bg, .int bad, .ref m13, .ref m14, .int plc, .int sta, .ref m17, .ref m18, .ref m19, .int shm])), (m1, .inl (G.2.1.1, 670, .inl (upd w 4 0)))] := hD
    refine lv_aload_n hx hb dX7_start_26 rfl (lv_at hl 0 rfl) ?_
    refine va_get (D := G.1) (ci := 10) (v := .ref m1) (C := RX7) (T := TX7) (N := 21) hx hb hts in_X7 hown hK hP 0 rfl rfl 1 (by decide) (hts _ k_fl_X7_7) (fun _ h9 => h9) rfl dX7_start_27 ?_
    refine lv_iconst (v := 3) hx hb dX7_start_30 (by decide) ?_
    refine lv_bipush (v := 32) hx hb dX7_start_31 (by decide) ?_
    refine lv_iload_n hx hb dX7_start_33 rfl (lv_at hl 1 rfl) ?_
    refine lv_imul hx hb dX7_start_34 ?_
    refine lv_iload_n hx hb dX7_start_35 rfl (lv_at hl 2 rfl) ?_
    refine lv_iadd hx hb dX7_start_36 ?_
    refine gIast (k := 3) hx hb hK hP hD hS 1 0 rfl rfl (by decide) (gInL (by decide)) dX7_start_37 (fun H locs hP hD hS => ?_)
    replace hP : va_P G.1 vwCl [(m0, .inr (10, [.int 0, .ref m1, .ref m2, .ref m3, .int hf, .int hs, .ref m6, .int len, .int ec, .int ep, .int pos, .int bg, .int bad, .ref m13, .ref m14, .int plc, .int sta, .ref m17, .ref m18, .ref m19, .int shm])), (m1, .inl (G.2.1.1, 670, .inl (upd (upd w 4 0) 3 ((32 * p0) + p1))))] H := hP
    replace hD : va_D A [(m0, .inr (10, [.int 0, .ref m1, .ref m2, .ref m3, .int hf, .int hs, .ref m6, .int len, .int ec, .int ep, .int pos, .int bg, .int bad, .ref m13, .ref m14, .int plc, .int sta, .ref m17, .ref m18, .ref m19, .int shm])), (m1, .inl (G.2.1.1, 670, .inl (upd (upd w 4 0) 3 ((32 * p0) + p1))))] := hD
    have ef : (f_X7_start w p0 p1) = (0, (upd (upd w 4 0) 3 ((32 * p0) + p1))) := (if_neg c_1)
    exact gRetV F hr hlocks hK hP hD hS rfl (by rw [ef]) (Nat.le_of_ble_eq_true rfl) (Nat.le_of_ble_eq_true rfl) dX7_start_38
  · skip
    refine lv_aload_n hx hb dX7_start_13 rfl (lv_at hl 0 rfl) ?_
    refine lv_iconst (v := 1) hx hb dX7_start_14 (by decide) ?_
    refine va_put (D := G.1) (ci := 10) (v := .int 1) (ty := .int) (C := RX7) (T := TX7) (N := 21) hx hb hts in_X7 tyX7 tyX7_ok nmX7 hown hK hP hD hS 0 rfl rfl 0 (by decide) (hts _ k_fl_X7_76) (fun _ h9 => h9) rfl (by decide +kernel) rfl rfl (Nat.le_of_ble_eq_true rfl) dX7_start_15 (fun H locs hP hD hS => ?_)
    replace hP : va_P G.1 vwCl [(m0, .inr (10, [.int 1, .ref m1, .ref m2, .ref m3, .int hf, .int hs, .ref m6, .int len, .int ec, .int ep, .int pos, .int bg, .int bad, .ref m13, .ref m14, .int plc, .int sta, .ref m17, .ref m18, .ref m19, .int shm])), (m1, .inl (G.2.1.1, 670, .inl w))] H := hP
    replace hD : va_D A [(m0, .inr (10, [.int 1, .ref m1, .ref m2, .ref m3, .int hf, .int hs, .ref m6, .int len, .int ec, .int ep, .int pos, .int bg, .int bad, .ref m13, .ref m14, .int plc, .int sta, .ref m17, .ref m18, .ref m19, .int shm])), (m1, .inl (G.2.1.1, 670, .inl w))] := hD
    have ef : (f_X7_start w p0 p1) = (1, w) := (if_pos c_1)
    exact gRetV F hr hlocks hK hP hD hS rfl (by rw [ef]) (Nat.le_of_ble_eq_true rfl) (Nat.le_of_ble_eq_true rfl) dX7_start_18
theorem okV_X7_start : gOkV yX7_start cX7_start 3 none 2 := ⟨⟨k_im_X7_start, k_se_X7_start, k_in_X7, k_cd_X7_start⟩, by decide, by decide, by decide +kernel⟩
def f_X7_whyNot (w : Nat → Int32) (p0 : Int32) : Int32 :=
  if (f_X7_in (Int32.toInt64 p0) 1 500) = 0 then
    1
  else
    if (w 4) = 0 then
      0
    else
      2
set_option maxRecDepth 100000 in
set_option maxHeartbeats 4000000 in
theorem c_X7_whyNot (l : Launch) (G : gG) (m0 : Nat) (m1 : Nat) (m2 : Nat) (m3 : Nat) (m6 : Nat) (m13 : Nat) (m14 : Nat) (m17 : Nat) (m18 : Nat) (m19 : Nat) (rz : Int32) (hf : Int32) (hs : Int32) (len : Int32) (ec : Int32) (ep : Int32) (pos : Int32) (bg : Int32) (bad : Int32) (plc : Int32) (sta : Int32) (shm : Int32) (w : Nat → Int32) (p0 : Int32) : gM l G yX7_whyNot cX7_whyNot 2 (some .int) { frames := 1, cells := 0, slots := 0, locals := 25 } [.ref m0, .int p0] [(m0, .inr (10, [.int rz, .ref m1, .ref m2, .ref m3, .int hf, .int hs, .ref m6, .int len, .int ec, .int ep, .int pos, .int bg, .int bad, .ref m13, .ref m14, .int plc, .int sta, .ref m17, .ref m18, .ref m19, .int shm])), (m1, .inl (G.2.1.1, 670, .inl w))] (some (.int (f_X7_whyNot w p0))) [(m0, .inr (10, [.int rz, .ref m1, .ref m2, .ref m3, .int hf, .int hs, .ref m6, .int len, .int ec, .int ep, .int pos, .int bg, .int bad, .ref m13, .ref m14, .int plc, .int sta, .ref m17, .ref m18, .ref m19, .int shm])), (m1, .inl (G.2.1.1, 670, .inl w))] 0 0 := by
  refine gBegin (by decide +kernel) (Nat.le_of_ble_eq_true rfl) (fun p e s m args below meth c A F hr hlocks hname hN hK hP hD hA hS ls hl => ?_)
  obtain ⟨hx, hb, hml, hown, hts⟩ := id F
  replace hP : va_P G.1 vwCl [(m0, .inr (10, [.int rz, .ref m1, .ref m2, .ref m3, .int hf, .int hs, .ref m6, .int len, .int ec, .int ep, .int pos, .int bg, .int bad, .ref m13, .ref m14, .int plc, .int sta, .ref m17, .ref m18, .ref m19, .int shm])), (m1, .inl (G.2.1.1, 670, .inl w))] s.heap := hP
  replace hl : lv_has ls 2 [(0, .ref m0), (1, .int p0)] := hl
  refine lv_iload_n hx hb dX7_whyNot_0 rfl (lv_at hl 1 rfl) ?_
  refine lv_i2l (v := (Int32.toInt64 p0)) hx hb dX7_whyNot_1 rfl ?_
  refine lv_lconst (v := 1) hx hb dX7_whyNot_2 (by decide) ?_
  refine lv_ldc2 (v := 500) hx hb hown (hts _ k_lc_X7_307) dX7_whyNot_3 ?_
  refine gS (As := [.long (Int32.toInt64 p0), .long 1, .long 500]) (rest := []) (wr := [(m0, .inr (10, [.int rz, .ref m1, .ref m2, .ref m3, .int hf, .int hs, .ref m6, .int len, .int ec, .int ep, .int pos, .int bg, .int bad, .ref m13, .ref m14, .int plc, .int sta, .ref m17, .ref m18, .ref m19, .int shm])), (m1, .inl (G.2.1.1, 670, .inl w))]) (ws' := [(m0, .inr (10, [.int rz, .ref m1, .ref m2, .ref m3, .int hf, .int hs, .ref m6, .int len, .int ec, .int ep, .int pos, .int bg, .int bad, .ref m13, .ref m14, .int plc, .int sta, .ref m17, .ref m18, .ref m19, .int shm])), (m1, .inl (G.2.1.1, 670, .inl w))]) F (c_X7_in l G (Int32.toInt64 p0) 1 500) okS_X7_in k_ml_X7_81 rfl rfl ⟨Nat.le_of_ble_eq_true rfl, Nat.le_of_ble_eq_true rfl⟩ hN hK hP hD hS hA [] [0, 1] [0, 1] (by decide) rfl rfl (by decide) (by decide) (by decide) rfl rfl rfl hl.1 (Nat.le_of_ble_eq_true rfl) dX7_whyNot_6 ⟨Nat.le_refl _, Nat.le_refl _⟩ (fun H locs hP hD hS => ?_)
  refine lv_if_ne (tgt := 16) hx hb dX7_whyNot_9 (by decide) (fun c_1 => ?_) (fun c_1 => ?_)
  · skip
    refine lv_aload_n hx hb dX7_whyNot_16 rfl (lv_at hl 0 rfl) ?_
    refine va_get (D := G.1) (ci := 10) (v := .ref m1) (C := RX7) (T := TX7) (N := 21) hx hb hts in_X7 hown hK hP 0 rfl rfl 1 (by decide) (hts _ k_fl_X7_7) (fun _ h9 => h9) rfl dX7_whyNot_17 ?_
    refine lv_iconst (v := 4) hx hb dX7_whyNot_20 (by decide) ?_
    refine gIald (k := 4) hx hb hK hP 1 0 rfl rfl (by decide) (gInL (by decide)) dX7_whyNot_21 ?_
    refine lv_if_eq (tgt := 29) hx hb dX7_whyNot_22 (by decide) (fun c_2 => ?_) (fun c_2 => ?_)
    · skip
      refine lv_iconst (v := 0) hx hb dX7_whyNot_29 (by decide) ?_
      have ef : (f_X7_whyNot w p0) = 0 := ((if_neg c_1).trans (if_pos c_2))
      exact gRetI F hr hlocks hK hP hD hS (by rw [ef]) rfl (Nat.le_of_ble_eq_true rfl) (Nat.le_of_ble_eq_true rfl) dX7_whyNot_30
    · skip
      refine lv_iconst (v := 2) hx hb dX7_whyNot_25 (by decide) ?_
      refine lv_goto (tgt := 30) hx hb dX7_whyNot_26 (by decide) ?_
      have ef : (f_X7_whyNot w p0) = 2 := ((if_neg c_1).trans (if_neg c_2))
      exact gRetI F hr hlocks hK hP hD hS (by rw [ef]) rfl (Nat.le_of_ble_eq_true rfl) (Nat.le_of_ble_eq_true rfl) dX7_whyNot_30
  · skip
    refine lv_iconst (v := 1) hx hb dX7_whyNot_12 (by decide) ?_
    refine lv_goto (tgt := 30) hx hb dX7_whyNot_13 (by decide) ?_
    have ef : (f_X7_whyNot w p0) = 1 := (if_pos c_1)
    exact gRetI F hr hlocks hK hP hD hS (by rw [ef]) rfl (Nat.le_of_ble_eq_true rfl) (Nat.le_of_ble_eq_true rfl) dX7_whyNot_30
theorem okV_X7_whyNot : gOkV yX7_whyNot cX7_whyNot 2 (some .int) 1 := ⟨⟨k_im_X7_whyNot, k_se_X7_whyNot, k_in_X7, k_cd_X7_whyNot⟩, by decide, by decide, by decide +kernel⟩
def f_X7_time (w : Nat → Int32) : Int32 × Int32 :=
  ((w 0), 0)
set_option maxRecDepth 100000 in
set_option maxHeartbeats 4000000 in
theorem c_X7_time (l : Launch) (G : gG) (m0 : Nat) (m1 : Nat) (m2 : Nat) (m3 : Nat) (m6 : Nat) (m13 : Nat) (m14 : Nat) (m17 : Nat) (m18 : Nat) (m19 : Nat) (rz : Int32) (hf : Int32) (hs : Int32) (len : Int32) (ec : Int32) (ep : Int32) (pos : Int32) (bg : Int32) (bad : Int32) (plc : Int32) (sta : Int32) (shm : Int32) (w : Nat → Int32) : gM l G yX7_time cX7_time 1 (some .int) { frames := 0, cells := 0, slots := 0, locals := 0 } [.ref m0] [(m0, .inr (10, [.int rz, .ref m1, .ref m2, .ref m3, .int hf, .int hs, .ref m6, .int len, .int ec, .int ep, .int pos, .int bg, .int bad, .ref m13, .ref m14, .int plc, .int sta, .ref m17, .ref m18, .ref m19, .int shm])), (m1, .inl (G.2.1.1, 670, .inl w))] (some (.int ((f_X7_time w).1))) [(m0, .inr (10, [.int ((f_X7_time w).2), .ref m1, .ref m2, .ref m3, .int hf, .int hs, .ref m6, .int len, .int ec, .int ep, .int pos, .int bg, .int bad, .ref m13, .ref m14, .int plc, .int sta, .ref m17, .ref m18, .ref m19, .int shm])), (m1, .inl (G.2.1.1, 670, .inl w))] 0 0 := by
  refine gBegin (by decide +kernel) (Nat.le_of_ble_eq_true rfl) (fun p e s m args below meth c A F hr hlocks hname hN hK hP hD hA hS ls hl => ?_)
  obtain ⟨hx, hb, hml, hown, hts⟩ := id F
  replace hP : va_P G.1 vwCl [(m0, .inr (10, [.int rz, .ref m1, .ref m2, .ref m3, .int hf, .int hs, .ref m6, .int len, .int ec, .int ep, .int pos, .int bg, .int bad, .ref m13, .ref m14, .int plc, .int sta, .ref m17, .ref m18, .ref m19, .int shm])), (m1, .inl (G.2.1.1, 670, .inl w))] s.heap := hP
  replace hl : lv_has ls 1 [(0, .ref m0)] := hl
  refine lv_aload_n hx hb dX7_time_0 rfl (lv_at hl 0 rfl) ?_
  refine lv_iconst (v := 0) hx hb dX7_time_1 (by decide) ?_
  refine va_put (D := G.1) (ci := 10) (v := .int 0) (ty := .int) (C := RX7) (T := TX7) (N := 21) hx hb hts in_X7 tyX7 tyX7_ok nmX7 hown hK hP hD hS 0 rfl rfl 0 (by decide) (hts _ k_fl_X7_76) (fun _ h9 => h9) rfl (by decide +kernel) rfl rfl (Nat.le_of_ble_eq_true rfl) dX7_time_2 (fun H locs hP hD hS => ?_)
  replace hP : va_P G.1 vwCl [(m0, .inr (10, [.int 0, .ref m1, .ref m2, .ref m3, .int hf, .int hs, .ref m6, .int len, .int ec, .int ep, .int pos, .int bg, .int bad, .ref m13, .ref m14, .int plc, .int sta, .ref m17, .ref m18, .ref m19, .int shm])), (m1, .inl (G.2.1.1, 670, .inl w))] H := hP
  replace hD : va_D A [(m0, .inr (10, [.int 0, .ref m1, .ref m2, .ref m3, .int hf, .int hs, .ref m6, .int len, .int ec, .int ep, .int pos, .int bg, .int bad, .ref m13, .ref m14, .int plc, .int sta, .ref m17, .ref m18, .ref m19, .int shm])), (m1, .inl (G.2.1.1, 670, .inl w))] := hD
  refine lv_aload_n hx hb dX7_time_5 rfl (lv_at hl 0 rfl) ?_
  refine va_get (D := G.1) (ci := 10) (v := .ref m1) (C := RX7) (T := TX7) (N := 21) hx hb hts in_X7 hown hK hP 0 rfl rfl 1 (by decide) (hts _ k_fl_X7_7) (fun _ h9 => h9) rfl dX7_time_6 ?_
  refine lv_iconst (v := 0) hx hb dX7_time_9 (by decide) ?_
  refine gIald (k := 0) hx hb hK hP 1 0 rfl rfl (by decide) (gInL (by decide)) dX7_time_10 ?_
  exact gRetI F hr hlocks hK hP hD hS rfl rfl (Nat.le_of_ble_eq_true rfl) (Nat.le_of_ble_eq_true rfl) dX7_time_11
theorem okV_X7_time : gOkV yX7_time cX7_time 1 (some .int) 0 := ⟨⟨k_im_X7_time, k_se_X7_time, k_in_X7, k_cd_X7_time⟩, by decide, by decide, by decide +kernel⟩
def f_X7_state (w : Nat → Int32) : Int32 × Int32 :=
  ((w 4), 0)
set_option maxRecDepth 100000 in
set_option maxHeartbeats 4000000 in
theorem c_X7_state (l : Launch) (G : gG) (m0 : Nat) (m1 : Nat) (m2 : Nat) (m3 : Nat) (m6 : Nat) (m13 : Nat) (m14 : Nat) (m17 : Nat) (m18 : Nat) (m19 : Nat) (rz : Int32) (hf : Int32) (hs : Int32) (len : Int32) (ec : Int32) (ep : Int32) (pos : Int32) (bg : Int32) (bad : Int32) (plc : Int32) (sta : Int32) (shm : Int32) (w : Nat → Int32) : gM l G yX7_state cX7_state 1 (some .int) { frames := 0, cells := 0, slots := 0, locals := 0 } [.ref m0] [(m0, .inr (10, [.int rz, .ref m1, .ref m2, .ref m3, .int hf, .int hs, .ref m6, .int len, .int ec, .int ep, .int pos, .int bg, .int bad, .ref m13, .ref m14, .int plc, .int sta, .ref m17, .ref m18, .ref m19, .int shm])), (m1, .inl (G.2.1.1, 670, .inl w))] (some (.int ((f_X7_state w).1))) [(m0, .inr (10, [.int ((f_X7_state w).2), .ref m1, .ref m2, .ref m3, .int hf, .int hs, .ref m6, .int len, .int ec, .int ep, .int pos, .int bg, .int bad, .ref m13, .ref m14, .int plc, .int sta, .ref m17, .ref m18, .ref m19, .int shm])), (m1, .inl (G.2.1.1, 670, .inl w))] 0 0 := by
  refine gBegin (by decide +kernel) (Nat.le_of_ble_eq_true rfl) (fun p e s m args below meth c A F hr hlocks hname hN hK hP hD hA hS ls hl => ?_)
  obtain ⟨hx, hb, hml, hown, hts⟩ := id F
  replace hP : va_P G.1 vwCl [(m0, .inr (10, [.int rz, .ref m1, .ref m2, .ref m3, .int hf, .int hs, .ref m6, .int len, .int ec, .int ep, .int pos, .int bg, .int bad, .ref m13, .ref m14, .int plc, .int sta, .ref m17, .ref m18, .ref m19, .int shm])), (m1, .inl (G.2.1.1, 670, .inl w))] s.heap := hP
  replace hl : lv_has ls 1 [(0, .ref m0)] := hl
  refine lv_aload_n hx hb dX7_state_0 rfl (lv_at hl 0 rfl) ?_
  refine lv_iconst (v := 0) hx hb dX7_state_1 (by decide) ?_
  refine va_put (D := G.1) (ci := 10) (v := .int 0) (ty := .int) (C := RX7) (T := TX7) (N := 21) hx hb hts in_X7 tyX7 tyX7_ok nmX7 hown hK hP hD hS 0 rfl rfl 0 (by decide) (hts _ k_fl_X7_76) (fun _ h9 => h9) rfl (by decide +kernel) rfl rfl (Nat.le_of_ble_eq_true rfl) dX7_state_2 (fun H locs hP hD hS => ?_)
  replace hP : va_P G.1 vwCl [(m0, .inr (10, [.int 0, .ref m1, .ref m2, .ref m3, .int hf, .int hs, .ref m6, .int len, .int ec, .int ep, .int pos, .int bg, .int bad, .ref m13, .ref m14, .int plc, .int sta, .ref m17, .ref m18, .ref m19, .int shm])), (m1, .inl (G.2.1.1, 670, .inl w))] H := hP
  replace hD : va_D A [(m0, .inr (10, [.int 0, .ref m1, .ref m2, .ref m3, .int hf, .int hs, .ref m6, .int len, .int ec, .int ep, .int pos, .int bg, .int bad, .ref m13, .ref m14, .int plc, .int sta, .ref m17, .ref m18, .ref m19, .int shm])), (m1, .inl (G.2.1.1, 670, .inl w))] := hD
  refine lv_aload_n hx hb dX7_state_5 rfl (lv_at hl 0 rfl) ?_
  refine va_get (D := G.1) (ci := 10) (v := .ref m1) (C := RX7) (T := TX7) (N := 21) hx hb hts in_X7 hown hK hP 0 rfl rfl 1 (by decide) (hts _ k_fl_X7_7) (fun _ h9 => h9) rfl dX7_state_6 ?_
  refine lv_iconst (v := 4) hx hb dX7_state_9 (by decide) ?_
  refine gIald (k := 4) hx hb hK hP 1 0 rfl rfl (by decide) (gInL (by decide)) dX7_state_10 ?_
  exact gRetI F hr hlocks hK hP hD hS rfl rfl (Nat.le_of_ble_eq_true rfl) (Nat.le_of_ble_eq_true rfl) dX7_state_11
theorem okV_X7_state : gOkV yX7_state cX7_state 1 (some .int) 0 := ⟨⟨k_im_X7_state, k_se_X7_state, k_in_X7, k_cd_X7_state⟩, by decide, by decide, by decide +kernel⟩
def f_X7_accumulator (w : Nat → Int32) : Int32 × Int32 :=
  ((w 1), 0)
set_option maxRecDepth 100000 in
set_option maxHeartbeats 4000000 in
theorem c_X7_accumulator (l : Launch) (G : gG) (m0 : Nat) (m1 : Nat) (m2 : Nat) (m3 : Nat) (m6 : Nat) (m13 : Nat) (m14 : Nat) (m17 : Nat) (m18 : Nat) (m19 : Nat) (rz : Int32) (hf : Int32) (hs : Int32) (len : Int32) (ec : Int32) (ep : Int32) (pos : Int32) (bg : Int32) (bad : Int32) (plc : Int32) (sta : Int32) (shm : Int32) (w : Nat → Int32) : gM l G yX7_accumulator cX7_accumulator 1 (some .int) { frames := 0, cells := 0, slots := 0, locals := 0 } [.ref m0] [(m0, .inr (10, [.int rz, .ref m1, .ref m2, .ref m3, .int hf, .int hs, .ref m6, .int len, .int ec, .int ep, .int pos, .int bg, .int bad, .ref m13, .ref m14, .int plc, .int sta, .ref m17, .ref m18, .ref m19, .int shm])), (m1, .inl (G.2.1.1, 670, .inl w))] (some (.int ((f_X7_accumulator w).1))) [(m0, .inr (10, [.int ((f_X7_accumulator w).2), .ref m1, .ref m2, .ref m3, .int hf, .int hs, .ref m6, .int len, .int ec, .int ep, .int pos, .int bg, .int bad, .ref m13, .ref m14, .int plc, .int sta, .ref m17, .ref m18, .ref m19, .int shm])), (m1, .inl (G.2.1.1, 670, .inl w))] 0 0 := by
  refine gBegin (by decide +kernel) (Nat.le_of_ble_eq_true rfl) (fun p e s m args below meth c A F hr hlocks hname hN hK hP hD hA hS ls hl => ?_)
  obtain ⟨hx, hb, hml, hown, hts⟩ := id F
  replace hP : va_P G.1 vwCl [(m0, .inr (10, [.int rz, .ref m1, .ref m2, .ref m3, .int hf, .int hs, .ref m6, .int len, .int ec, .int ep, .int pos, .int bg, .int bad, .ref m13, .ref m14, .int plc, .int sta, .ref m17, .ref m18, .ref m19, .int shm])), (m1, .inl (G.2.1.1, 670, .inl w))] s.heap := hP
  replace hl : lv_has ls 1 [(0, .ref m0)] := hl
  refine lv_aload_n hx hb dX7_accumulator_0 rfl (lv_at hl 0 rfl) ?_
  refine lv_iconst (v := 0) hx hb dX7_accumulator_1 (by decide) ?_
  refine va_put (D := G.1) (ci := 10) (v := .int 0) (ty := .int) (C := RX7) (T := TX7) (N := 21) hx hb hts in_X7 tyX7 tyX7_ok nmX7 hown hK hP hD hS 0 rfl rfl 0 (by decide) (hts _ k_fl_X7_76) (fun _ h9 => h9) rfl (by decide +kernel) rfl rfl (Nat.le_of_ble_eq_true rfl) dX7_accumulator_2 (fun H locs hP hD hS => ?_)
  replace hP : va_P G.1 vwCl [(m0, .inr (10, [.int 0, .ref m1, .ref m2, .ref m3, .int hf, .int hs, .ref m6, .int len, .int ec, .int ep, .int pos, .int bg, .int bad, .ref m13, .ref m14, .int plc, .int sta, .ref m17, .ref m18, .ref m19, .int shm])), (m1, .inl (G.2.1.1, 670, .inl w))] H := hP
  replace hD : va_D A [(m0, .inr (10, [.int 0, .ref m1, .ref m2, .ref m3, .int hf, .int hs, .ref m6, .int len, .int ec, .int ep, .int pos, .int bg, .int bad, .ref m13, .ref m14, .int plc, .int sta, .ref m17, .ref m18, .ref m19, .int shm])), (m1, .inl (G.2.1.1, 670, .inl w))] := hD
  refine lv_aload_n hx hb dX7_accumulator_5 rfl (lv_at hl 0 rfl) ?_
  refine va_get (D := G.1) (ci := 10) (v := .ref m1) (C := RX7) (T := TX7) (N := 21) hx hb hts in_X7 hown hK hP 0 rfl rfl 1 (by decide) (hts _ k_fl_X7_7) (fun _ h9 => h9) rfl dX7_accumulator_6 ?_
  refine lv_iconst (v := 1) hx hb dX7_accumulator_9 (by decide) ?_
  refine gIald (k := 1) hx hb hK hP 1 0 rfl rfl (by decide) (gInL (by decide)) dX7_accumulator_10 ?_
  exact gRetI F hr hlocks hK hP hD hS rfl rfl (Nat.le_of_ble_eq_true rfl) (Nat.le_of_ble_eq_true rfl) dX7_accumulator_11
theorem okV_X7_accumulator : gOkV yX7_accumulator cX7_accumulator 1 (some .int) 0 := ⟨⟨k_im_X7_accumulator, k_se_X7_accumulator, k_in_X7, k_cd_X7_accumulator⟩, by decide, by decide, by decide +kernel⟩
def f_X7_hasOverflow (w : Nat → Int32) : Int32 × Int32 :=
  if (w 2) = 1 then
    (1, 0)
  else
    (0, 0)
set_option maxRecDepth 100000 in
set_option maxHeartbeats 4000000 in
theorem c_X7_hasOverflow (l : Launch) (G : gG) (m0 : Nat) (m1 : Nat) (m2 : Nat) (m3 : Nat) (m6 : Nat) (m13 : Nat) (m14 : Nat) (m17 : Nat) (m18 : Nat) (m19 : Nat) (rz : Int32) (hf : Int32) (hs : Int32) (len : Int32) (ec : Int32) (ep : Int32) (pos : Int32) (bg : Int32) (bad : Int32) (plc : Int32) (sta : Int32) (shm : Int32) (w : Nat → Int32) : gM l G yX7_hasOverflow cX7_hasOverflow 1 (some .boolean) { frames := 0, cells := 0, slots := 0, locals := 0 } [.ref m0] [(m0, .inr (10, [.int rz, .ref m1, .ref m2, .ref m3, .int hf, .int hs, .ref m6, .int len, .int ec, .int ep, .int pos, .int bg, .int bad, .ref m13, .ref m14, .int plc, .int sta, .ref m17, .ref m18, .ref m19, .int shm])), (m1, .inl (G.2.1.1, 670, .inl w))] (some (.int ((f_X7_hasOverflow w).1))) [(m0, .inr (10, [.int ((f_X7_hasOverflow w).2), .ref m1, .ref m2, .ref m3, .int hf, .int hs, .ref m6, .int len, .int ec, .int ep, .int pos, .int bg, .int bad, .ref m13, .ref m14, .int plc, .int sta, .ref m17, .ref m18, .ref m19, .int shm])), (m1, .inl (G.2.1.1, 670, .inl w))] 0 0 := by
  refine gBegin (by decide +kernel) (Nat.le_of_ble_eq_true rfl) (fun p e s m args below meth c A F hr hlocks hname hN hK hP hD hA hS ls hl => ?_)
  obtain ⟨hx, hb, hml, hown, hts⟩ := id F
  replace hP : va_P G.1 vwCl [(m0, .inr (10, [.int rz, .ref m1, .ref m2, .ref m3, .int hf, .int hs, .ref m6, .int len, .int ec, .int ep, .int pos, .int bg, .int bad, .ref m13, .ref m14, .int plc, .int sta, .ref m17, .ref m18, .ref m19, .int shm])), (m1, .inl (G.2.1.1, 670, .inl w))] s.heap := hP
  replace hl : lv_has ls 1 [(0, .ref m0)] := hl
  refine lv_aload_n hx hb dX7_hasOverflow_0 rfl (lv_at hl 0 rfl) ?_
  refine lv_iconst (v := 0) hx hb dX7_hasOverflow_1 (by decide) ?_
  refine va_put (D := G.1) (ci := 10) (v := .int 0) (ty := .int) (C := RX7) (T := TX7) (N := 21) hx hb hts in_X7 tyX7 tyX7_ok nmX7 hown hK hP hD hS 0 rfl rfl 0 (by decide) (hts _ k_fl_X7_76) (fun _ h9 => h9) rfl (by decide +kernel) rfl rfl (Nat.le_of_ble_eq_true rfl) dX7_hasOverflow_2 (fun H locs hP hD hS => ?_)
  replace hP : va_P G.1 vwCl [(m0, .inr (10, [.int 0, .ref m1, .ref m2, .ref m3, .int hf, .int hs, .ref m6, .int len, .int ec, .int ep, .int pos, .int bg, .int bad, .ref m13, .ref m14, .int plc, .int sta, .ref m17, .ref m18, .ref m19, .int shm])), (m1, .inl (G.2.1.1, 670, .inl w))] H := hP
  replace hD : va_D A [(m0, .inr (10, [.int 0, .ref m1, .ref m2, .ref m3, .int hf, .int hs, .ref m6, .int len, .int ec, .int ep, .int pos, .int bg, .int bad, .ref m13, .ref m14, .int plc, .int sta, .ref m17, .ref m18, .ref m19, .int shm])), (m1, .inl (G.2.1.1, 670, .inl w))] := hD
  refine lv_aload_n hx hb dX7_hasOverflow_5 rfl (lv_at hl 0 rfl) ?_
  refine va_get (D := G.1) (ci := 10) (v := .ref m1) (C := RX7) (T := TX7) (N := 21) hx hb hts in_X7 hown hK hP 0 rfl rfl 1 (by decide) (hts _ k_fl_X7_7) (fun _ h9 => h9) rfl dX7_hasOverflow_6 ?_
  refine lv_iconst (v := 2) hx hb dX7_hasOverflow_9 (by decide) ?_
  refine gIald (k := 2) hx hb hK hP 1 0 rfl rfl (by decide) (gInL (by decide)) dX7_hasOverflow_10 ?_
  refine lv_iconst (v := 1) hx hb dX7_hasOverflow_11 (by decide) ?_
  refine lv_icmp_ne (tgt := 19) hx hb dX7_hasOverflow_12 (by decide) (fun c_1 => ?_) (fun c_1 => ?_)
  · skip
    refine lv_iconst (v := 0) hx hb dX7_hasOverflow_19 (by decide) ?_
    have ef : (f_X7_hasOverflow w) = (0, 0) := (if_neg c_1)
    exact gRetZ F hr hlocks hK hP hD hS rfl (by rw [ef]) (by rw [ef]) (Nat.le_of_ble_eq_true rfl) (Nat.le_of_ble_eq_true rfl) dX7_hasOverflow_20
  · skip
    refine lv_iconst (v := 1) hx hb dX7_hasOverflow_15 (by decide) ?_
    refine lv_goto (tgt := 20) hx hb dX7_hasOverflow_16 (by decide) ?_
    have ef : (f_X7_hasOverflow w) = (1, 0) := (if_pos c_1)
    exact gRetZ F hr hlocks hK hP hD hS rfl (by rw [ef]) (by rw [ef]) (Nat.le_of_ble_eq_true rfl) (Nat.le_of_ble_eq_true rfl) dX7_hasOverflow_20
theorem okV_X7_hasOverflow : gOkV yX7_hasOverflow cX7_hasOverflow 1 (some .boolean) 0 := ⟨⟨k_im_X7_hasOverflow, k_se_X7_hasOverflow, k_in_X7, k_cd_X7_hasOverflow⟩, by decide, by decide, by decide +kernel⟩
def f_X7_location (w : Nat → Int32) : Int32 × Int32 :=
  ((w 3), 0)
set_option maxRecDepth 100000 in
set_option maxHeartbeats 4000000 in
theorem c_X7_location (l : Launch) (G : gG) (m0 : Nat) (m1 : Nat) (m2 : Nat) (m3 : Nat) (m6 : Nat) (m13 : Nat) (m14 : Nat) (m17 : Nat) (m18 : Nat) (m19 : Nat) (rz : Int32) (hf : Int32) (hs : Int32) (len : Int32) (ec : Int32) (ep : Int32) (pos : Int32) (bg : Int32) (bad : Int32) (plc : Int32) (sta : Int32) (shm : Int32) (w : Nat → Int32) : gM l G yX7_location cX7_location 1 (some .int) { frames := 0, cells := 0, slots := 0, locals := 0 } [.ref m0] [(m0, .inr (10, [.int rz, .ref m1, .ref m2, .ref m3, .int hf, .int hs, .ref m6, .int len, .int ec, .int ep, .int pos, .int bg, .int bad, .ref m13, .ref m14, .int plc, .int sta, .ref m17, .ref m18, .ref m19, .int shm])), (m1, .inl (G.2.1.1, 670, .inl w))] (some (.int ((f_X7_location w).1))) [(m0, .inr (10, [.int ((f_X7_location w).2), .ref m1, .ref m2, .ref m3, .int hf, .int hs, .ref m6, .int len, .int ec, .int ep, .int pos, .int bg, .int bad, .ref m13, .ref m14, .int plc, .int sta, .ref m17, .ref m18, .ref m19, .int shm])), (m1, .inl (G.2.1.1, 670, .inl w))] 0 0 := by
  refine gBegin (by decide +kernel) (Nat.le_of_ble_eq_true rfl) (fun p e s m args below meth c A F hr hlocks hname hN hK hP hD hA hS ls hl => ?_)
  obtain ⟨hx, hb, hml, hown, hts⟩ := id F
  replace hP : va_P G.1 vwCl [(m0, .inr (10, [.int rz, .ref m1, .ref m2, .ref m3, .int hf, .int hs, .ref m6, .int len, .int ec, .int ep, .int pos, .int bg, .int bad, .ref m13, .ref m14, .int plc, .int sta, .ref m17, .ref m18, .ref m19, .int shm])), (m1, .inl (G.2.1.1, 670, .inl w))] s.heap := hP
  replace hl : lv_has ls 1 [(0, .ref m0)] := hl
  refine lv_aload_n hx hb dX7_location_0 rfl (lv_at hl 0 rfl) ?_
  refine lv_iconst (v := 0) hx hb dX7_location_1 (by decide) ?_
  refine va_put (D := G.1) (ci := 10) (v := .int 0) (ty := .int) (C := RX7) (T := TX7) (N := 21) hx hb hts in_X7 tyX7 tyX7_ok nmX7 hown hK hP hD hS 0 rfl rfl 0 (by decide) (hts _ k_fl_X7_76) (fun _ h9 => h9) rfl (by decide +kernel) rfl rfl (Nat.le_of_ble_eq_true rfl) dX7_location_2 (fun H locs hP hD hS => ?_)
  replace hP : va_P G.1 vwCl [(m0, .inr (10, [.int 0, .ref m1, .ref m2, .ref m3, .int hf, .int hs, .ref m6, .int len, .int ec, .int ep, .int pos, .int bg, .int bad, .ref m13, .ref m14, .int plc, .int sta, .ref m17, .ref m18, .ref m19, .int shm])), (m1, .inl (G.2.1.1, 670, .inl w))] H := hP
  replace hD : va_D A [(m0, .inr (10, [.int 0, .ref m1, .ref m2, .ref m3, .int hf, .int hs, .ref m6, .int len, .int ec, .int ep, .int pos, .int bg, .int bad, .ref m13, .ref m14, .int plc, .int sta, .ref m17, .ref m18, .ref m19, .int shm])), (m1, .inl (G.2.1.1, 670, .inl w))] := hD
  refine lv_aload_n hx hb dX7_location_5 rfl (lv_at hl 0 rfl) ?_
  refine va_get (D := G.1) (ci := 10) (v := .ref m1) (C := RX7) (T := TX7) (N := 21) hx hb hts in_X7 hown hK hP 0 rfl rfl 1 (by decide) (hts _ k_fl_X7_7) (fun _ h9 => h9) rfl dX7_location_6 ?_
  refine lv_iconst (v := 3) hx hb dX7_location_9 (by decide) ?_
  refine gIald (k := 3) hx hb hK hP 1 0 rfl rfl (by decide) (gInL (by decide)) dX7_location_10 ?_
  exact gRetI F hr hlocks hK hP hD hS rfl rfl (Nat.le_of_ble_eq_true rfl) (Nat.le_of_ble_eq_true rfl) dX7_location_11
theorem okV_X7_location : gOkV yX7_location cX7_location 1 (some .int) 0 := ⟨⟨k_im_X7_location, k_se_X7_location, k_in_X7, k_cd_X7_location⟩, by decide, by decide, by decide +kernel⟩
def f_X7_outputLength (w : Nat → Int32) : Int32 × Int32 :=
  ((w 13), 0)
set_option maxRecDepth 100000 in
set_option maxHeartbeats 4000000 in
theorem c_X7_outputLength (l : Launch) (G : gG) (m0 : Nat) (m1 : Nat) (m2 : Nat) (m3 : Nat) (m6 : Nat) (m13 : Nat) (m14 : Nat) (m17 : Nat) (m18 : Nat) (m19 : Nat) (rz : Int32) (hf : Int32) (hs : Int32) (len : Int32) (ec : Int32) (ep : Int32) (pos : Int32) (bg : Int32) (bad : Int32) (plc : Int32) (sta : Int32) (shm : Int32) (w : Nat → Int32) : gM l G yX7_outputLength cX7_outputLength 1 (some .int) { frames := 0, cells := 0, slots := 0, locals := 0 } [.ref m0] [(m0, .inr (10, [.int rz, .ref m1, .ref m2, .ref m3, .int hf, .int hs, .ref m6, .int len, .int ec, .int ep, .int pos, .int bg, .int bad, .ref m13, .ref m14, .int plc, .int sta, .ref m17, .ref m18, .ref m19, .int shm])), (m1, .inl (G.2.1.1, 670, .inl w))] (some (.int ((f_X7_outputLength w).1))) [(m0, .inr (10, [.int ((f_X7_outputLength w).2), .ref m1, .ref m2, .ref m3, .int hf, .int hs, .ref m6, .int len, .int ec, .int ep, .int pos, .int bg, .int bad, .ref m13, .ref m14, .int plc, .int sta, .ref m17, .ref m18, .ref m19, .int shm])), (m1, .inl (G.2.1.1, 670, .inl w))] 0 0 := by
  refine gBegin (by decide +kernel) (Nat.le_of_ble_eq_true rfl) (fun p e s m args below meth c A F hr hlocks hname hN hK hP hD hA hS ls hl => ?_)
  obtain ⟨hx, hb, hml, hown, hts⟩ := id F
  replace hP : va_P G.1 vwCl [(m0, .inr (10, [.int rz, .ref m1, .ref m2, .ref m3, .int hf, .int hs, .ref m6, .int len, .int ec, .int ep, .int pos, .int bg, .int bad, .ref m13, .ref m14, .int plc, .int sta, .ref m17, .ref m18, .ref m19, .int shm])), (m1, .inl (G.2.1.1, 670, .inl w))] s.heap := hP
  replace hl : lv_has ls 1 [(0, .ref m0)] := hl
  refine lv_aload_n hx hb dX7_outputLength_0 rfl (lv_at hl 0 rfl) ?_
  refine lv_iconst (v := 0) hx hb dX7_outputLength_1 (by decide) ?_
  refine va_put (D := G.1) (ci := 10) (v := .int 0) (ty := .int) (C := RX7) (T := TX7) (N := 21) hx hb hts in_X7 tyX7 tyX7_ok nmX7 hown hK hP hD hS 0 rfl rfl 0 (by decide) (hts _ k_fl_X7_76) (fun _ h9 => h9) rfl (by decide +kernel) rfl rfl (Nat.le_of_ble_eq_true rfl) dX7_outputLength_2 (fun H locs hP hD hS => ?_)
  replace hP : va_P G.1 vwCl [(m0, .inr (10, [.int 0, .ref m1, .ref m2, .ref m3, .int hf, .int hs, .ref m6, .int len, .int ec, .int ep, .int pos, .int bg, .int bad, .ref m13, .ref m14, .int plc, .int sta, .ref m17, .ref m18, .ref m19, .int shm])), (m1, .inl (G.2.1.1, 670, .inl w))] H := hP
  replace hD : va_D A [(m0, .inr (10, [.int 0, .ref m1, .ref m2, .ref m3, .int hf, .int hs, .ref m6, .int len, .int ec, .int ep, .int pos, .int bg, .int bad, .ref m13, .ref m14, .int plc, .int sta, .ref m17, .ref m18, .ref m19, .int shm])), (m1, .inl (G.2.1.1, 670, .inl w))] := hD
  refine lv_aload_n hx hb dX7_outputLength_5 rfl (lv_at hl 0 rfl) ?_
  refine va_get (D := G.1) (ci := 10) (v := .ref m1) (C := RX7) (T := TX7) (N := 21) hx hb hts in_X7 hown hK hP 0 rfl rfl 1 (by decide) (hts _ k_fl_X7_7) (fun _ h9 => h9) rfl dX7_outputLength_6 ?_
  refine lv_bipush (v := 13) hx hb dX7_outputLength_9 (by decide) ?_
  refine gIald (k := 13) hx hb hK hP 1 0 rfl rfl (by decide) (gInL (by decide)) dX7_outputLength_11 ?_
  exact gRetI F hr hlocks hK hP hD hS rfl rfl (Nat.le_of_ble_eq_true rfl) (Nat.le_of_ble_eq_true rfl) dX7_outputLength_12
theorem okV_X7_outputLength : gOkV yX7_outputLength cX7_outputLength 1 (some .int) 0 := ⟨⟨k_im_X7_outputLength, k_se_X7_outputLength, k_in_X7, k_cd_X7_outputLength⟩, by decide, by decide, by decide +kernel⟩
def f_X7_executed (w : Nat → Int32) : Int32 × Int32 :=
  ((w 5), 0)
set_option maxRecDepth 100000 in
set_option maxHeartbeats 4000000 in
theorem c_X7_executed (l : Launch) (G : gG) (m0 : Nat) (m1 : Nat) (m2 : Nat) (m3 : Nat) (m6 : Nat) (m13 : Nat) (m14 : Nat) (m17 : Nat) (m18 : Nat) (m19 : Nat) (rz : Int32) (hf : Int32) (hs : Int32) (len : Int32) (ec : Int32) (ep : Int32) (pos : Int32) (bg : Int32) (bad : Int32) (plc : Int32) (sta : Int32) (shm : Int32) (w : Nat → Int32) : gM l G yX7_executed cX7_executed 1 (some .int) { frames := 0, cells := 0, slots := 0, locals := 0 } [.ref m0] [(m0, .inr (10, [.int rz, .ref m1, .ref m2, .ref m3, .int hf, .int hs, .ref m6, .int len, .int ec, .int ep, .int pos, .int bg, .int bad, .ref m13, .ref m14, .int plc, .int sta, .ref m17, .ref m18, .ref m19, .int shm])), (m1, .inl (G.2.1.1, 670, .inl w))] (some (.int ((f_X7_executed w).1))) [(m0, .inr (10, [.int ((f_X7_executed w).2), .ref m1, .ref m2, .ref m3, .int hf, .int hs, .ref m6, .int len, .int ec, .int ep, .int pos, .int bg, .int bad, .ref m13, .ref m14, .int plc, .int sta, .ref m17, .ref m18, .ref m19, .int shm])), (m1, .inl (G.2.1.1, 670, .inl w))] 0 0 := by
  refine gBegin (by decide +kernel) (Nat.le_of_ble_eq_true rfl) (fun p e s m args below meth c A F hr hlocks hname hN hK hP hD hA hS ls hl => ?_)
  obtain ⟨hx, hb, hml, hown, hts⟩ := id F
  replace hP : va_P G.1 vwCl [(m0, .inr (10, [.int rz, .ref m1, .ref m2, .ref m3, .int hf, .int hs, .ref m6, .int len, .int ec, .int ep, .int pos, .int bg, .int bad, .ref m13, .ref m14, .int plc, .int sta, .ref m17, .ref m18, .ref m19, .int shm])), (m1, .inl (G.2.1.1, 670, .inl w))] s.heap := hP
  replace hl : lv_has ls 1 [(0, .ref m0)] := hl
  refine lv_aload_n hx hb dX7_executed_0 rfl (lv_at hl 0 rfl) ?_
  refine lv_iconst (v := 0) hx hb dX7_executed_1 (by decide) ?_
  refine va_put (D := G.1) (ci := 10) (v := .int 0) (ty := .int) (C := RX7) (T := TX7) (N := 21) hx hb hts in_X7 tyX7 tyX7_ok nmX7 hown hK hP hD hS 0 rfl rfl 0 (by decide) (hts _ k_fl_X7_76) (fun _ h9 => h9) rfl (by decide +kernel) rfl rfl (Nat.le_of_ble_eq_true rfl) dX7_executed_2 (fun H locs hP hD hS => ?_)
  replace hP : va_P G.1 vwCl [(m0, .inr (10, [.int 0, .ref m1, .ref m2, .ref m3, .int hf, .int hs, .ref m6, .int len, .int ec, .int ep, .int pos, .int bg, .int bad, .ref m13, .ref m14, .int plc, .int sta, .ref m17, .ref m18, .ref m19, .int shm])), (m1, .inl (G.2.1.1, 670, .inl w))] H := hP
  replace hD : va_D A [(m0, .inr (10, [.int 0, .ref m1, .ref m2, .ref m3, .int hf, .int hs, .ref m6, .int len, .int ec, .int ep, .int pos, .int bg, .int bad, .ref m13, .ref m14, .int plc, .int sta, .ref m17, .ref m18, .ref m19, .int shm])), (m1, .inl (G.2.1.1, 670, .inl w))] := hD
  refine lv_aload_n hx hb dX7_executed_5 rfl (lv_at hl 0 rfl) ?_
  refine va_get (D := G.1) (ci := 10) (v := .ref m1) (C := RX7) (T := TX7) (N := 21) hx hb hts in_X7 hown hK hP 0 rfl rfl 1 (by decide) (hts _ k_fl_X7_7) (fun _ h9 => h9) rfl dX7_executed_6 ?_
  refine lv_iconst (v := 5) hx hb dX7_executed_9 (by decide) ?_
  refine gIald (k := 5) hx hb hK hP 1 0 rfl rfl (by decide) (gInL (by decide)) dX7_executed_10 ?_
  exact gRetI F hr hlocks hK hP hD hS rfl rfl (Nat.le_of_ble_eq_true rfl) (Nat.le_of_ble_eq_true rfl) dX7_executed_11
theorem okV_X7_executed : gOkV yX7_executed cX7_executed 1 (some .int) 0 := ⟨⟨k_im_X7_executed, k_se_X7_executed, k_in_X7, k_cd_X7_executed⟩, by decide, by decide, by decide +kernel⟩
def f_X7_waited (w : Nat → Int32) : Int32 × Int32 :=
  ((w 6), 0)
set_option maxRecDepth 100000 in
set_option maxHeartbeats 4000000 in
theorem c_X7_waited (l : Launch) (G : gG) (m0 : Nat) (m1 : Nat) (m2 : Nat) (m3 : Nat) (m6 : Nat) (m13 : Nat) (m14 : Nat) (m17 : Nat) (m18 : Nat) (m19 : Nat) (rz : Int32) (hf : Int32) (hs : Int32) (len : Int32) (ec : Int32) (ep : Int32) (pos : Int32) (bg : Int32) (bad : Int32) (plc : Int32) (sta : Int32) (shm : Int32) (w : Nat → Int32) : gM l G yX7_waited cX7_waited 1 (some .int) { frames := 0, cells := 0, slots := 0, locals := 0 } [.ref m0] [(m0, .inr (10, [.int rz, .ref m1, .ref m2, .ref m3, .int hf, .int hs, .ref m6, .int len, .int ec, .int ep, .int pos, .int bg, .int bad, .ref m13, .ref m14, .int plc, .int sta, .ref m17, .ref m18, .ref m19, .int shm])), (m1, .inl (G.2.1.1, 670, .inl w))] (some (.int ((f_X7_waited w).1))) [(m0, .inr (10, [.int ((f_X7_waited w).2), .ref m1, .ref m2, .ref m3, .int hf, .int hs, .ref m6, .int len, .int ec, .int ep, .int pos, .int bg, .int bad, .ref m13, .ref m14, .int plc, .int sta, .ref m17, .ref m18, .ref m19, .int shm])), (m1, .inl (G.2.1.1, 670, .inl w))] 0 0 := by
  refine gBegin (by decide +kernel) (Nat.le_of_ble_eq_true rfl) (fun p e s m args below meth c A F hr hlocks hname hN hK hP hD hA hS ls hl => ?_)
  obtain ⟨hx, hb, hml, hown, hts⟩ := id F
  replace hP : va_P G.1 vwCl [(m0, .inr (10, [.int rz, .ref m1, .ref m2, .ref m3, .int hf, .int hs, .ref m6, .int len, .int ec, .int ep, .int pos, .int bg, .int bad, .ref m13, .ref m14, .int plc, .int sta, .ref m17, .ref m18, .ref m19, .int shm])), (m1, .inl (G.2.1.1, 670, .inl w))] s.heap := hP
  replace hl : lv_has ls 1 [(0, .ref m0)] := hl
  refine lv_aload_n hx hb dX7_waited_0 rfl (lv_at hl 0 rfl) ?_
  refine lv_iconst (v := 0) hx hb dX7_waited_1 (by decide) ?_
  refine va_put (D := G.1) (ci := 10) (v := .int 0) (ty := .int) (C := RX7) (T := TX7) (N := 21) hx hb hts in_X7 tyX7 tyX7_ok nmX7 hown hK hP hD hS 0 rfl rfl 0 (by decide) (hts _ k_fl_X7_76) (fun _ h9 => h9) rfl (by decide +kernel) rfl rfl (Nat.le_of_ble_eq_true rfl) dX7_waited_2 (fun H locs hP hD hS => ?_)
  replace hP : va_P G.1 vwCl [(m0, .inr (10, [.int 0, .ref m1, .ref m2, .ref m3, .int hf, .int hs, .ref m6, .int len, .int ec, .int ep, .int pos, .int bg, .int bad, .ref m13, .ref m14, .int plc, .int sta, .ref m17, .ref m18, .ref m19, .int shm])), (m1, .inl (G.2.1.1, 670, .inl w))] H := hP
  replace hD : va_D A [(m0, .inr (10, [.int 0, .ref m1, .ref m2, .ref m3, .int hf, .int hs, .ref m6, .int len, .int ec, .int ep, .int pos, .int bg, .int bad, .ref m13, .ref m14, .int plc, .int sta, .ref m17, .ref m18, .ref m19, .int shm])), (m1, .inl (G.2.1.1, 670, .inl w))] := hD
  refine lv_aload_n hx hb dX7_waited_5 rfl (lv_at hl 0 rfl) ?_
  refine va_get (D := G.1) (ci := 10) (v := .ref m1) (C := RX7) (T := TX7) (N := 21) hx hb hts in_X7 hown hK hP 0 rfl rfl 1 (by decide) (hts _ k_fl_X7_7) (fun _ h9 => h9) rfl dX7_waited_6 ?_
  refine lv_bipush (v := 6) hx hb dX7_waited_9 (by decide) ?_
  refine gIald (k := 6) hx hb hK hP 1 0 rfl rfl (by decide) (gInL (by decide)) dX7_waited_11 ?_
  exact gRetI F hr hlocks hK hP hD hS rfl rfl (Nat.le_of_ble_eq_true rfl) (Nat.le_of_ble_eq_true rfl) dX7_waited_12
theorem okV_X7_waited : gOkV yX7_waited cX7_waited 1 (some .int) 0 := ⟨⟨k_im_X7_waited, k_se_X7_waited, k_in_X7, k_cd_X7_waited⟩, by decide, by decide, by decide +kernel⟩
def f_X7_executedAt (w : Nat → Int32) (p0 : Int32) (p1 : Int32) : Int32 × Int32 :=
  if (f_X7_isLocation p0 p1) = 0 then
    ((f_X7_fails 1).1, (f_X7_fails 1).2)
  else
    ((w (Int32.toNatClampNeg ((158 + (32 * p0)) + p1))), 0)
set_option maxRecDepth 100000 in
set_option maxHeartbeats 4000000 in
theorem c_X7_executedAt (l : Launch) (G : gG) (m0 : Nat) (m1 : Nat) (m2 : Nat) (m3 : Nat) (m6 : Nat) (m13 : Nat) (m14 : Nat) (m17 : Nat) (m18 : Nat) (m19 : Nat) (rz : Int32) (hf : Int32) (hs : Int32) (len : Int32) (ec : Int32) (ep : Int32) (pos : Int32) (bg : Int32) (bad : Int32) (plc : Int32) (sta : Int32) (shm : Int32) (w : Nat → Int32) (p0 : Int32) (p1 : Int32) : gM l G yX7_executedAt cX7_executedAt 3 (some .int) { frames := 3, cells := 0, slots := 0, locals := 66 } [.ref m0, .int p0, .int p1] [(m0, .inr (10, [.int rz, .ref m1, .ref m2, .ref m3, .int hf, .int hs, .ref m6, .int len, .int ec, .int ep, .int pos, .int bg, .int bad, .ref m13, .ref m14, .int plc, .int sta, .ref m17, .ref m18, .ref m19, .int shm])), (m1, .inl (G.2.1.1, 670, .inl w))] (some (.int ((f_X7_executedAt w p0 p1).1))) [(m0, .inr (10, [.int ((f_X7_executedAt w p0 p1).2), .ref m1, .ref m2, .ref m3, .int hf, .int hs, .ref m6, .int len, .int ec, .int ep, .int pos, .int bg, .int bad, .ref m13, .ref m14, .int plc, .int sta, .ref m17, .ref m18, .ref m19, .int shm])), (m1, .inl (G.2.1.1, 670, .inl w))] 0 0 := by
  refine gBegin (by decide +kernel) (Nat.le_of_ble_eq_true rfl) (fun p e s m args below meth c A F hr hlocks hname hN hK hP hD hA hS ls hl => ?_)
  obtain ⟨hx, hb, hml, hown, hts⟩ := id F
  replace hP : va_P G.1 vwCl [(m0, .inr (10, [.int rz, .ref m1, .ref m2, .ref m3, .int hf, .int hs, .ref m6, .int len, .int ec, .int ep, .int pos, .int bg, .int bad, .ref m13, .ref m14, .int plc, .int sta, .ref m17, .ref m18, .ref m19, .int shm])), (m1, .inl (G.2.1.1, 670, .inl w))] s.heap := hP
  replace hl : lv_has ls 3 [(0, .ref m0), (1, .int p0), (2, .int p1)] := hl
  refine lv_aload_n hx hb dX7_executedAt_0 rfl (lv_at hl 0 rfl) ?_
  refine lv_iconst (v := 0) hx hb dX7_executedAt_1 (by decide) ?_
  refine va_put (D := G.1) (ci := 10) (v := .int 0) (ty := .int) (C := RX7) (T := TX7) (N := 21) hx hb hts in_X7 tyX7 tyX7_ok nmX7 hown hK hP hD hS 0 rfl rfl 0 (by decide) (hts _ k_fl_X7_76) (fun _ h9 => h9) rfl (by decide +kernel) rfl rfl (Nat.le_of_ble_eq_true rfl) dX7_executedAt_2 (fun H locs hP hD hS => ?_)
  replace hP : va_P G.1 vwCl [(m0, .inr (10, [.int 0, .ref m1, .ref m2, .ref m3, .int hf, .int hs, .ref m6, .int len, .int ec, .int ep, .int pos, .int bg, .int bad, .ref m13, .ref m14, .int plc, .int sta, .ref m17, .ref m18, .ref m19, .int shm])), (m1, .inl (G.2.1.1, 670, .inl w))] H := hP
  replace hD : va_D A [(m0, .inr (10, [.int 0, .ref m1, .ref m2, .ref m3, .int hf, .int hs, .ref m6, .int len, .int ec, .int ep, .int pos, .int bg, .int bad, .ref m13, .ref m14, .int plc, .int sta, .ref m17, .ref m18, .ref m19, .int shm])), (m1, .inl (G.2.1.1, 670, .inl w))] := hD
  refine lv_iload_n hx hb dX7_executedAt_5 rfl (lv_at hl 1 rfl) ?_
  refine lv_iload_n hx hb dX7_executedAt_6 rfl (lv_at hl 2 rfl) ?_
  refine gS (As := [.int p0, .int p1]) (rest := []) (wr := [(m0, .inr (10, [.int 0, .ref m1, .ref m2, .ref m3, .int hf, .int hs, .ref m6, .int len, .int ec, .int ep, .int pos, .int bg, .int bad, .ref m13, .ref m14, .int plc, .int sta, .ref m17, .ref m18, .ref m19, .int shm])), (m1, .inl (G.2.1.1, 670, .inl w))]) (ws' := [(m0, .inr (10, [.int 0, .ref m1, .ref m2, .ref m3, .int hf, .int hs, .ref m6, .int len, .int ec, .int ep, .int pos, .int bg, .int bad, .ref m13, .ref m14, .int plc, .int sta, .ref m17, .ref m18, .ref m19, .int shm])), (m1, .inl (G.2.1.1, 670, .inl w))]) F (c_X7_isLocation l G p0 p1) okS_X7_isLocation k_ml_X7_193 rfl rfl ⟨Nat.le_of_ble_eq_true rfl, Nat.le_of_ble_eq_true rfl⟩ hN hK hP hD hS hA [] [0, 1] [0, 1] (by decide) rfl rfl (by decide) (by decide) (by decide) rfl rfl rfl hl.1 (Nat.le_of_ble_eq_true rfl) dX7_executedAt_7 ⟨Nat.le_refl _, Nat.le_refl _⟩ (fun H locs hP hD hS => ?_)
  refine lv_if_eq (tgt := 31) hx hb dX7_executedAt_10 (by decide) (fun c_1 => ?_) (fun c_1 => ?_)
  · skip
    refine lv_aload_n hx hb dX7_executedAt_31 rfl (lv_at hl 0 rfl) ?_
    refine lv_iconst (v := 1) hx hb dX7_executedAt_32 (by decide) ?_
    refine gV (As := [.int 1]) (rest := []) (wr := [(m1, .inl (G.2.1.1, 670, .inl w))]) (ws' := [(m0, .inr (10, [.int ((f_X7_fails 1).2), .ref m1, .ref m2, .ref m3, .int hf, .int hs, .ref m6, .int len, .int ec, .int ep, .int pos, .int bg, .int bad, .ref m13, .ref m14, .int plc, .int sta, .ref m17, .ref m18, .ref m19, .int shm])), (m1, .inl (G.2.1.1, 670, .inl w))]) F (c_X7_fails l G m0 m1 m2 m3 m6 m13 m14 m17 m18 m19 0 hf hs len ec ep pos bg bad plc sta shm 1) okV_X7_fails k_ml_X7_98 rfl rfl ⟨Nat.le_of_ble_eq_true rfl, Nat.le_of_ble_eq_true rfl⟩ hN hK hP hD hS hA [0] [1] [1, 0] (by decide) rfl rfl (by decide) (by decide) (by decide) rfl (q0 := 0) rfl rfl rfl rfl hl.1 (Nat.le_of_ble_eq_true rfl) dX7_executedAt_33 ⟨Nat.le_refl _, Nat.le_refl _⟩ (fun H locs hP hD hS => ?_)
    have ef : (f_X7_executedAt w p0 p1) = ((f_X7_fails 1).1, (f_X7_fails 1).2) := (if_pos c_1)
    exact gRetI F hr hlocks hK hP hD hS (by rw [ef]) (by rw [ef]) (Nat.le_of_ble_eq_true rfl) (Nat.le_of_ble_eq_true rfl) dX7_executedAt_36
  · skip
    refine lv_aload_n hx hb dX7_executedAt_13 rfl (lv_at hl 0 rfl) ?_
    refine va_get (D := G.1) (ci := 10) (v := .ref m1) (C := RX7) (T := TX7) (N := 21) hx hb hts in_X7 hown hK hP 0 rfl rfl 1 (by decide) (hts _ k_fl_X7_7) (fun _ h9 => h9) rfl dX7_executedAt_14 ?_
    refine lv_sipush (v := 158) hx hb dX7_executedAt_17 (by decide) ?_
    refine lv_bipush (v := 32) hx hb dX7_executedAt_20 (by decide) ?_
    refine lv_iload_n hx hb dX7_executedAt_22 rfl (lv_at hl 1 rfl) ?_
    refine lv_imul hx hb dX7_executedAt_23 ?_
    refine lv_iadd hx hb dX7_executedAt_24 ?_
    refine lv_iload_n hx hb dX7_executedAt_25 rfl (lv_at hl 2 rfl) ?_
    refine lv_iadd hx hb dX7_executedAt_26 ?_
    refine va_iald hx hb hK hP 1 0 rfl rfl (by have qc_1 := loc_of c_1; have z0 : (158 : Int32).toInt = 158 := (by decide); have z1 : (32 : Int32).toInt = 32 := (by decide); (try have z3 := gI_mul (x := 32) (y := p0) (by (try rw [z1]); (try rw [z2]); omega) (by (try rw [z1]); (try rw [z2]); omega)); (try rw [z1, z2] at z3); (try rw [z1] at z3); (try rw [z2] at z3); (try have z4 := gI_add (x := 158) (y := (32 * p0)) (by omega) (by omega)); (try have z6 := gI_add (x := (158 + (32 * p0))) (y := p1) (by omega) (by omega)); (try rw [vp_in_iff]); omega) dX7_executedAt_27 ?_
    refine lv_goto (tgt := 36) hx hb dX7_executedAt_28 (by decide) ?_
    have ef : (f_X7_executedAt w p0 p1) = ((w (Int32.toNatClampNeg ((158 + (32 * p0)) + p1))), 0) := (if_neg c_1)
    exact gRetI F hr hlocks hK hP hD hS (by rw [ef]) (by rw [ef]) (Nat.le_of_ble_eq_true rfl) (Nat.le_of_ble_eq_true rfl) dX7_executedAt_36
theorem okV_X7_executedAt : gOkV yX7_executedAt cX7_executedAt 3 (some .int) 2 := ⟨⟨k_im_X7_executedAt, k_se_X7_executedAt, k_in_X7, k_cd_X7_executedAt⟩, by decide, by decide, by decide +kernel⟩
def f_X7_offerInput (w : Nat → Int32) (p0 : Int32) : Int32 × Int32 × (Nat → Int32) :=
  if (f_X7_in (Int32.toInt64 p0) (-524288) 524287) = 0 then
    ((f_X7_fails 1).1, (f_X7_fails 1).2, w)
  else
    if (w 12) = 64 then
      ((f_X7_fails 2).1, (f_X7_fails 2).2, w)
    else
      if ((upd (upd w (Int32.toNatClampNeg (30 + (w 12))) p0) 12 (((upd w (Int32.toNatClampNeg (30 + (w 12))) p0) 12) + 1)) 4) = 2 then
        (((upd (upd (upd w (Int32.toNatClampNeg (30 + (w 12))) p0) 12 (((upd w (Int32.toNatClampNeg (30 + (w 12))) p0) 12) + 1)) 4 0) 12), 0, (upd (upd (upd w (Int32.toNatClampNeg (30 + (w 12))) p0) 12 (((upd w (Int32.toNatClampNeg (30 + (w 12))) p0) 12) + 1)) 4 0))
      else
        (((upd (upd (upd w (Int32.toNatClampNeg (30 + (w 12))) p0) 12 (((upd w (Int32.toNatClampNeg (30 + (w 12))) p0) 12) + 1)) 4 ((upd (upd w (Int32.toNatClampNeg (30 + (w 12))) p0) 12 (((upd w (Int32.toNatClampNeg (30 + (w 12))) p0) 12) + 1)) 4)) 12), 0, (upd (upd (upd w (Int32.toNatClampNeg (30 + (w 12))) p0) 12 (((upd w (Int32.toNatClampNeg (30 + (w 12))) p0) 12) + 1)) 4 ((upd (upd w (Int32.toNatClampNeg (30 + (w 12))) p0) 12 (((upd w (Int32.toNatClampNeg (30 + (w 12))) p0) 12) + 1)) 4)))
set_option maxRecDepth 100000 in
set_option maxHeartbeats 4000000 in
theorem c_X7_offerInput (l : Launch) (G : gG) (m0 : Nat) (m1 : Nat) (m2 : Nat) (m3 : Nat) (m6 : Nat) (m13 : Nat) (m14 : Nat) (m17 : Nat) (m18 : Nat) (m19 : Nat) (rz : Int32) (hf : Int32) (hs : Int32) (len : Int32) (ec : Int32) (ep : Int32) (pos : Int32) (bg : Int32) (bad : Int32) (plc : Int32) (sta : Int32) (shm : Int32) (w : Nat → Int32) (p0 : Int32) (h12 : 0 ≤ (w 12).toInt ∧ (w 12).toInt ≤ 64) : gM l G yX7_offerInput cX7_offerInput 2 (some .int) { frames := 1, cells := 0, slots := 0, locals := 25 } [.ref m0, .int p0] [(m0, .inr (10, [.int rz, .ref m1, .ref m2, .ref m3, .int hf, .int hs, .ref m6, .int len, .int ec, .int ep, .int pos, .int bg, .int bad, .ref m13, .ref m14, .int plc, .int sta, .ref m17, .ref m18, .ref m19, .int shm])), (m1, .inl (G.2.1.1, 670, .inl w))] (some (.int ((f_X7_offerInput w p0).1))) [(m0, .inr (10, [.int ((f_X7_offerInput w p0).2.1), .ref m1, .ref m2, .ref m3, .int hf, .int hs, .ref m6, .int len, .int ec, .int ep, .int pos, .int bg, .int bad, .ref m13, .ref m14, .int plc, .int sta, .ref m17, .ref m18, .ref m19, .int shm])), (m1, .inl (G.2.1.1, 670, .inl ((f_X7_offerInput w p0).2.2)))] 0 0 := by
  refine gBegin (by decide +kernel) (Nat.le_of_ble_eq_true rfl) (fun p e s m args below meth c A F hr hlocks hname hN hK hP hD hA hS ls hl => ?_)
  obtain ⟨hx, hb, hml, hown, hts⟩ := id F
  replace hP : va_P G.1 vwCl [(m0, .inr (10, [.int rz, .ref m1, .ref m2, .ref m3, .int hf, .int hs, .ref m6, .int len, .int ec, .int ep, .int pos, .int bg, .int bad, .ref m13, .ref m14, .int plc, .int sta, .ref m17, .ref m18, .ref m19, .int shm])), (m1, .inl (G.2.1.1, 670, .inl w))] s.heap := hP
  replace hl : lv_has ls 2 [(0, .ref m0), (1, .int p0)] := hl
  refine lv_aload_n hx hb dX7_offerInput_0 rfl (lv_at hl 0 rfl) ?_
  refine lv_iconst (v := 0) hx hb dX7_offerInput_1 (by decide) ?_
  refine va_put (D := G.1) (ci := 10) (v := .int 0) (ty := .int) (C := RX7) (T := TX7) (N := 21) hx hb hts in_X7 tyX7 tyX7_ok nmX7 hown hK hP hD hS 0 rfl rfl 0 (by decide) (hts _ k_fl_X7_76) (fun _ h9 => h9) rfl (by decide +kernel) rfl rfl (Nat.le_of_ble_eq_true rfl) dX7_offerInput_2 (fun H locs hP hD hS => ?_)
  replace hP : va_P G.1 vwCl [(m0, .inr (10, [.int 0, .ref m1, .ref m2, .ref m3, .int hf, .int hs, .ref m6, .int len, .int ec, .int ep, .int pos, .int bg, .int bad, .ref m13, .ref m14, .int plc, .int sta, .ref m17, .ref m18, .ref m19, .int shm])), (m1, .inl (G.2.1.1, 670, .inl w))] H := hP
  replace hD : va_D A [(m0, .inr (10, [.int 0, .ref m1, .ref m2, .ref m3, .int hf, .int hs, .ref m6, .int len, .int ec, .int ep, .int pos, .int bg, .int bad, .ref m13, .ref m14, .int plc, .int sta, .ref m17, .ref m18, .ref m19, .int shm])), (m1, .inl (G.2.1.1, 670, .inl w))] := hD
  refine lv_iload_n hx hb dX7_offerInput_5 rfl (lv_at hl 1 rfl) ?_
  refine lv_i2l (v := (Int32.toInt64 p0)) hx hb dX7_offerInput_6 rfl ?_
  refine lv_ldc2 (v := (-524288)) hx hb hown (hts _ k_lc_X7_200) dX7_offerInput_7 ?_
  refine lv_ldc2 (v := 524287) hx hb hown (hts _ k_lc_X7_202) dX7_offerInput_10 ?_
  refine gS (As := [.long (Int32.toInt64 p0), .long (-524288), .long 524287]) (rest := []) (wr := [(m0, .inr (10, [.int 0, .ref m1, .ref m2, .ref m3, .int hf, .int hs, .ref m6, .int len, .int ec, .int ep, .int pos, .int bg, .int bad, .ref m13, .ref m14, .int plc, .int sta, .ref m17, .ref m18, .ref m19, .int shm])), (m1, .inl (G.2.1.1, 670, .inl w))]) (ws' := [(m0, .inr (10, [.int 0, .ref m1, .ref m2, .ref m3, .int hf, .int hs, .ref m6, .int len, .int ec, .int ep, .int pos, .int bg, .int bad, .ref m13, .ref m14, .int plc, .int sta, .ref m17, .ref m18, .ref m19, .int shm])), (m1, .inl (G.2.1.1, 670, .inl w))]) F (c_X7_in l G (Int32.toInt64 p0) (-524288) 524287) okS_X7_in k_ml_X7_81 rfl rfl ⟨Nat.le_of_ble_eq_true rfl, Nat.le_of_ble_eq_true rfl⟩ hN hK hP hD hS hA [] [0, 1] [0, 1] (by decide) rfl rfl (by decide) (by decide) (by decide) rfl rfl rfl hl.1 (Nat.le_of_ble_eq_true rfl) dX7_offerInput_13 ⟨Nat.le_refl _, Nat.le_refl _⟩ (fun H locs hP hD hS => ?_)
  refine lv_if_ne (tgt := 25) hx hb dX7_offerInput_16 (by decide) (fun c_1 => ?_) (fun c_1 => ?_)
  · skip
    refine lv_aload_n hx hb dX7_offerInput_25 rfl (lv_at hl 0 rfl) ?_
    refine va_get (D := G.1) (ci := 10) (v := .ref m1) (C := RX7) (T := TX7) (N := 21) hx hb hts in_X7 hown hK hP 0 rfl rfl 1 (by decide) (hts _ k_fl_X7_7) (fun _ h9 => h9) rfl dX7_offerInput_26 ?_
    refine lv_bipush (v := 12) hx hb dX7_offerInput_29 (by decide) ?_
    refine gIald (k := 12) hx hb hK hP 1 0 rfl rfl (by decide) (gInL (by decide)) dX7_offerInput_31 ?_
    refine lv_bipush (v := 64) hx hb dX7_offerInput_32 (by decide) ?_
    refine lv_icmp_ne (tgt := 43) hx hb dX7_offerInput_34 (by decide) (fun c_2 => ?_) (fun c_2 => ?_)
    · skip
      refine lv_aload_n hx hb dX7_offerInput_43 rfl (lv_at hl 0 rfl) ?_
      refine va_get (D := G.1) (ci := 10) (v := .ref m1) (C := RX7) (T := TX7) (N := 21) hx hb hts in_X7 hown hK hP 0 rfl rfl 1 (by decide) (hts _ k_fl_X7_7) (fun _ h9 => h9) rfl dX7_offerInput_44 ?_
      refine lv_bipush (v := 30) hx hb dX7_offerInput_47 (by decide) ?_
      refine lv_aload_n hx hb dX7_offerInput_49 rfl (lv_at hl 0 rfl) ?_
      refine va_get (D := G.1) (ci := 10) (v := .ref m1) (C := RX7) (T := TX7) (N := 21) hx hb hts in_X7 hown hK hP 0 rfl rfl 1 (by decide) (hts _ k_fl_X7_7) (fun _ h9 => h9) rfl dX7_offerInput_50 ?_
      refine lv_bipush (v := 12) hx hb dX7_offerInput_53 (by decide) ?_
      refine gIald (k := 12) hx hb hK hP 1 0 rfl rfl (by decide) (gInL (by decide)) dX7_offerInput_55 ?_
      refine lv_iadd hx hb dX7_offerInput_56 ?_
      refine lv_iload_n hx hb dX7_offerInput_57 rfl (lv_at hl 1 rfl) ?_
      refine va_iast hx hb hK hP hD hS 1 0 rfl rfl (by have qc_1 := in_ofI (a := -524288) (b := 524287) c_1 (by decide) (by decide); have hq := gI_clamp h12.1; have z0 : (30 : Int32).toInt = 30 := (by decide); (try have z2 := gI_add (x := 30) (y := (w 12)) (by omega) (by omega)); (try rw [vp_in_iff]); omega) dX7_offerInput_58 (fun H locs hP hD hS => ?_)
      replace hP : va_P G.1 vwCl [(m0, .inr (10, [.int 0, .ref m1, .ref m2, .ref m3, .int hf, .int hs, .ref m6, .int len, .int ec, .int ep, .int pos, .int bg, .int bad, .ref m13, .ref m14, .int plc, .int sta, .ref m17, .ref m18, .ref m19, .int shm])), (m1, .inl (G.2.1.1, 670, .inl (upd w (Int32.toNatClampNeg (30 + (w 12))) p0)))] H := hP
      replace hD : va_D A [(m0, .inr (10, [.int 0, .ref m1, .ref m2, .ref m3, .int hf, .int hs, .ref m6, .int len, .int ec, .int ep, .int pos, .int bg, .int bad, .ref m13, .ref m14, .int plc, .int sta, .ref m17, .ref m18, .ref m19, .int shm])), (m1, .inl (G.2.1.1, 670, .inl (upd w (Int32.toNatClampNeg (30 + (w 12))) p0)))] := hD
      refine lv_aload_n hx hb dX7_offerInput_59 rfl (lv_at hl 0 rfl) ?_
      refine va_get (D := G.1) (ci := 10) (v := .ref m1) (C := RX7) (T := TX7) (N := 21) hx hb hts in_X7 hown hK hP 0 rfl rfl 1 (by decide) (hts _ k_fl_X7_7) (fun _ h9 => h9) rfl dX7_offerInput_60 ?_
      refine lv_bipush (v := 12) hx hb dX7_offerInput_63 (by decide) ?_
      refine lv_dup2_11 hx hb dX7_offerInput_65 rfl rfl ?_
      refine gIald (k := 12) hx hb hK hP 1 0 rfl rfl (by decide) (gInL (by decide)) dX7_offerInput_66 ?_
      refine lv_iconst (v := 1) hx hb dX7_offerInput_67 (by decide) ?_
      refine lv_iadd hx hb dX7_offerInput_68 ?_
      refine gIast (k := 12) hx hb hK hP hD hS 1 0 rfl rfl (by decide) (gInL (by decide)) dX7_offerInput_69 (fun H locs hP hD hS => ?_)
      replace hP : va_P G.1 vwCl [(m0, .inr (10, [.int 0, .ref m1, .ref m2, .ref m3, .int hf, .int hs, .ref m6, .int len, .int ec, .int ep, .int pos, .int bg, .int bad, .ref m13, .ref m14, .int plc, .int sta, .ref m17, .ref m18, .ref m19, .int shm])), (m1, .inl (G.2.1.1, 670, .inl (upd (upd w (Int32.toNatClampNeg (30 + (w 12))) p0) 12 (((upd w (Int32.toNatClampNeg (30 + (w 12))) p0) 12) + 1))))] H := hP
      replace hD : va_D A [(m0, .inr (10, [.int 0, .ref m1, .ref m2, .ref m3, .int hf, .int hs, .ref m6, .int len, .int ec, .int ep, .int pos, .int bg, .int bad, .ref m13, .ref m14, .int plc, .int sta, .ref m17, .ref m18, .ref m19, .int shm])), (m1, .inl (G.2.1.1, 670, .inl (upd (upd w (Int32.toNatClampNeg (30 + (w 12))) p0) 12 (((upd w (Int32.toNatClampNeg (30 + (w 12))) p0) 12) + 1))))] := hD
      refine lv_aload_n hx hb dX7_offerInput_70 rfl (lv_at hl 0 rfl) ?_
      refine va_get (D := G.1) (ci := 10) (v := .ref m1) (C := RX7) (T := TX7) (N := 21) hx hb hts in_X7 hown hK hP 0 rfl rfl 1 (by decide) (hts _ k_fl_X7_7) (fun _ h9 => h9) rfl dX7_offerInput_71 ?_
      refine lv_iconst (v := 4) hx hb dX7_offerInput_74 (by decide) ?_
      refine lv_aload_n hx hb dX7_offerInput_75 rfl (lv_at hl 0 rfl) ?_
      refine va_get (D := G.1) (ci := 10) (v := .ref m1) (C := RX7) (T := TX7) (N := 21) hx hb hts in_X7 hown hK hP 0 rfl rfl 1 (by decide) (hts _ k_fl_X7_7) (fun _ h9 => h9) rfl dX7_offerInput_76 ?_
      refine lv_iconst (v := 4) hx hb dX7_offerInput_79 (by decide) ?_
      refine gIald (k := 4) hx hb hK hP 1 0 rfl rfl (by decide) (gInL (by decide)) dX7_offerInput_80 ?_
      refine lv_iconst (v := 2) hx hb dX7_offerInput_81 (by decide) ?_
      refine lv_icmp_ne (tgt := 89) hx hb dX7_offerInput_82 (by decide) (fun c_3 => ?_) (fun c_3 => ?_)
      · skip
        refine lv_aload_n hx hb dX7_offerInput_89 rfl (lv_at hl 0 rfl) ?_
        refine va_get (D := G.1) (ci := 10) (v := .ref m1) (C := RX7) (T := TX7) (N := 21) hx hb hts in_X7 hown hK hP 0 rfl rfl 1 (by decide) (hts _ k_fl_X7_7) (fun _ h9 => h9) rfl dX7_offerInput_90 ?_
        refine lv_iconst (v := 4) hx hb dX7_offerInput_93 (by decide) ?_
        refine gIald (k := 4) hx hb hK hP 1 0 rfl rfl (by decide) (gInL (by decide)) dX7_offerInput_94 ?_
        refine gIast (k := 4) hx hb hK hP hD hS 1 0 rfl rfl (by decide) (gInL (by decide)) dX7_offerInput_95 (fun H locs hP hD hS => ?_)
        replace hP : va_P G.1 vwCl [(m0, .inr (10, [.int 0, .ref m1, .ref m2, .ref m3, .int hf, .int hs, .ref m6, .int len, .int ec, .int ep, .int pos, .int bg, .int bad, .ref m13, .ref m14, .int plc, .int sta, .ref m17, .ref m18, .ref m19, .int shm])), (m1, .inl (G.2.1.1, 670, .inl (upd (upd (upd w (Int32.toNatClampNeg (30 + (w 12))) p0) 12 (((upd w (Int32.toNatClampNeg (30 + (w 12))) p0) 12) + 1)) 4 ((upd (upd w (Int32.toNatClampNeg (30 + (w 12))) p0) 12 (((upd w (Int32.toNatClampNeg (30 + (w 12))) p0) 12) + 1)) 4))))] H := hP
        replace hD : va_D A [(m0, .inr (10, [.int 0, .ref m1, .ref m2, .ref m3, .int hf, .int hs, .ref m6, .int len, .int ec, .int ep, .int pos, .int bg, .int bad, .ref m13, .ref m14, .int plc, .int sta, .ref m17, .ref m18, .ref m19, .int shm])), (m1, .inl (G.2.1.1, 670, .inl (upd (upd (upd w (Int32.toNatClampNeg (30 + (w 12))) p0) 12 (((upd w (Int32.toNatClampNeg (30 + (w 12))) p0) 12) + 1)) 4 ((upd (upd w (Int32.toNatClampNeg (30 + (w 12))) p0) 12 (((upd w (Int32.toNatClampNeg (30 + (w 12))) p0) 12) + 1)) 4))))] := hD
        refine lv_aload_n hx hb dX7_offerInput_96 rfl (lv_at hl 0 rfl) ?_
        refine va_get (D := G.1) (ci := 10) (v := .ref m1) (C := RX7) (T := TX7) (N := 21) hx hb hts in_X7 hown hK hP 0 rfl rfl 1 (by decide) (hts _ k_fl_X7_7) (fun _ h9 => h9) rfl dX7_offerInput_97 ?_
        refine lv_bipush (v := 12) hx hb dX7_offerInput_100 (by decide) ?_
        refine gIald (k := 12) hx hb hK hP 1 0 rfl rfl (by decide) (gInL (by decide)) dX7_offerInput_102 ?_
        have ef : (f_X7_offerInput w p0) = (((upd (upd (upd w (Int32.toNatClampNeg (30 + (w 12))) p0) 12 (((upd w (Int32.toNatClampNeg (30 + (w 12))) p0) 12) + 1)) 4 ((upd (upd w (Int32.toNatClampNeg (30 + (w 12))) p0) 12 (((upd w (Int32.toNatClampNeg (30 + (w 12))) p0) 12) + 1)) 4)) 12), 0, (upd (upd (upd w (Int32.toNatClampNeg (30 + (w 12))) p0) 12 (((upd w (Int32.toNatClampNeg (30 + (w 12))) p0) 12) + 1)) 4 ((upd (upd w (Int32.toNatClampNeg (30 + (w 12))) p0) 12 (((upd w (Int32.toNatClampNeg (30 + (w 12))) p0) 12) + 1)) 4))) := ((if_neg c_1).trans ((if_neg c_2).trans (if_neg c_3)))
        exact gRetI F hr hlocks hK hP hD hS (by rw [ef]) (by rw [ef]) (Nat.le_of_ble_eq_true rfl) (Nat.le_of_ble_eq_true rfl) dX7_offerInput_103
      · skip
        refine lv_iconst (v := 0) hx hb dX7_offerInput_85 (by decide) ?_
        refine lv_goto (tgt := 95) hx hb dX7_offerInput_86 (by decide) ?_
        refine gIast (k := 4) hx hb hK hP hD hS 1 0 rfl rfl (by decide) (gInL (by decide)) dX7_offerInput_95 (fun H locs hP hD hS => ?_)
        replace hP : va_P G.1 vwCl [(m0, .inr (10, [.int 0, .ref m1, .ref m2, .ref m3, .int hf, .int hs, .ref m6, .int len, .int ec, .int ep, .int pos, .int bg, .int bad, .ref m13, .ref m14, .int plc, .int sta, .ref m17, .ref m18, .ref m19, .int shm])), (m1, .inl (G.2.1.1, 670, .inl (upd (upd (upd w (Int32.toNatClampNeg (30 + (w 12))) p0) 12 (((upd w (Int32.toNatClampNeg (30 + (w 12))) p0) 12) + 1)) 4 0)))] H := hP
        replace hD : va_D A [(m0, .inr (10, [.int 0, .ref m1, .ref m2, .ref m3, .int hf, .int hs, .ref m6, .int len, .int ec, .int ep, .int pos, .int bg, .int bad, .ref m13, .ref m14, .int plc, .int sta, .ref m17, .ref m18, .ref m19, .int shm])), (m1, .inl (G.2.1.1, 670, .inl (upd (upd (upd w (Int32.toNatClampNeg (30 + (w 12))) p0) 12 (((upd w (Int32.toNatClampNeg (30 + (w 12))) p0) 12) + 1)) 4 0)))] := hD
        refine lv_aload_n hx hb dX7_offerInput_96 rfl (lv_at hl 0 rfl) ?_
        refine va_get (D := G.1) (ci := 10) (v := .ref m1) (C := RX7) (T := TX7) (N := 21) hx hb hts in_X7 hown hK hP 0 rfl rfl 1 (by decide) (hts _ k_fl_X7_7) (fun _ h9 => h9) rfl dX7_offerInput_97 ?_
        refine lv_bipush (v := 12) hx hb dX7_offerInput_100 (by decide) ?_
        refine gIald (k := 12) hx hb hK hP 1 0 rfl rfl (by decide) (gInL (by decide)) dX7_offerInput_102 ?_
        have ef : (f_X7_offerInput w p0) = (((upd (upd (upd w (Int32.toNatClampNeg (30 + (w 12))) p0) 12 (((upd w (Int32.toNatClampNeg (30 + (w 12))) p0) 12) + 1)) 4 0) 12), 0, (upd (upd (upd w (Int32.toNatClampNeg (30 + (w 12))) p0) 12 (((upd w (Int32.toNatClampNeg (30 + (w 12))) p0) 12) + 1)) 4 0)) := ((if_neg c_1).trans ((if_neg c_2).trans (if_pos c_3)))
        exact gRetI F hr hlocks hK hP hD hS (by rw [ef]) (by rw [ef]) (Nat.le_of_ble_eq_true rfl) (Nat.le_of_ble_eq_true rfl) dX7_offerInput_103
    · skip
      refine lv_aload_n hx hb dX7_offerInput_37 rfl (lv_at hl 0 rfl) ?_
      refine lv_iconst (v := 2) hx hb dX7_offerInput_38 (by decide) ?_
      refine gV (As := [.int 2]) (rest := []) (wr := [(m1, .inl (G.2.1.1, 670, .inl w))]) (ws' := [(m0, .inr (10, [.int ((f_X7_fails 2).2), .ref m1, .ref m2, .ref m3, .int hf, .int hs, .ref m6, .int len, .int ec, .int ep, .int pos, .int bg, .int bad, .ref m13, .ref m14, .int plc, .int sta, .ref m17, .ref m18, .ref m19, .int shm])), (m1, .inl (G.2.1.1, 670, .inl w))]) F (c_X7_fails l G m0 m1 m2 m3 m6 m13 m14 m17 m18 m19 0 hf hs len ec ep pos bg bad plc sta shm 2) okV_X7_fails k_ml_X7_98 rfl rfl ⟨Nat.le_of_ble_eq_true rfl, Nat.le_of_ble_eq_true rfl⟩ hN hK hP hD hS hA [0] [1] [1, 0] (by decide) rfl rfl (by decide) (by decide) (by decide) rfl (q0 := 0) rfl rfl rfl rfl hl.1 (Nat.le_of_ble_eq_true rfl) dX7_offerInput_39 ⟨Nat.le_refl _, Nat.le_refl _⟩ (fun H locs hP hD hS => ?_)
      have ef : (f_X7_offerInput w p0) = ((f_X7_fails 2).1, (f_X7_fails 2).2, w) := ((if_neg c_1).trans (if_pos c_2))
      exact gRetI F hr hlocks hK hP hD hS (by rw [ef]) (by rw [ef]) (Nat.le_of_ble_eq_true rfl) (Nat.le_of_ble_eq_true rfl) dX7_offerInput_42
  · skip
    refine lv_aload_n hx hb dX7_offerInput_19 rfl (lv_at hl 0 rfl) ?_
    refine lv_iconst (v := 1) hx hb dX7_offerInput_20 (by decide) ?_
    refine gV (As := [.int 1]) (rest := []) (wr := [(m1, .inl (G.2.1.1, 670, .inl w))]) (ws' := [(m0, .inr (10, [.int ((f_X7_fails 1).2), .ref m1, .ref m2, .ref m3, .int hf, .int hs, .ref m6, .int len, .int ec, .int ep, .int pos, .int bg, .int bad, .ref m13, .ref m14, .int plc, .int sta, .ref m17, .ref m18, .ref m19, .int shm])), (m1, .inl (G.2.1.1, 670, .inl w))]) F (c_X7_fails l G m0 m1 m2 m3 m6 m13 m14 m17 m18 m19 0 hf hs len ec ep pos bg bad plc sta shm 1) okV_X7_fails k_ml_X7_98 rfl rfl ⟨Nat.le_of_ble_eq_true rfl, Nat.le_of_ble_eq_true rfl⟩ hN hK hP hD hS hA [0] [1] [1, 0] (by decide) rfl rfl (by decide) (by decide) (by decide) rfl (q0 := 0) rfl rfl rfl rfl hl.1 (Nat.le_of_ble_eq_true rfl) dX7_offerInput_21 ⟨Nat.le_refl _, Nat.le_refl _⟩ (fun H locs hP hD hS => ?_)
    have ef : (f_X7_offerInput w p0) = ((f_X7_fails 1).1, (f_X7_fails 1).2, w) := (if_pos c_1)
    exact gRetI F hr hlocks hK hP hD hS (by rw [ef]) (by rw [ef]) (Nat.le_of_ble_eq_true rfl) (Nat.le_of_ble_eq_true rfl) dX7_offerInput_24
theorem okV_X7_offerInput : gOkV yX7_offerInput cX7_offerInput 2 (some .int) 1 := ⟨⟨k_im_X7_offerInput, k_se_X7_offerInput, k_in_X7, k_cd_X7_offerInput⟩, by decide, by decide, by decide +kernel⟩
def f_X7_until (p0 : Int32) (p1 : Int32) : Int32 :=
  (p0 + (((p1 - (p0 % 32)) + 32) % 32))
set_option maxRecDepth 100000 in
set_option maxHeartbeats 4000000 in
theorem c_X7_until (l : Launch) (G : gG) (p0 : Int32) (p1 : Int32) : gM l G yX7_until cX7_until 2 (some .int) { frames := 0, cells := 0, slots := 0, locals := 0 } [.int p0, .int p1] [] (some (.int (f_X7_until p0 p1))) [] 0 0 := by
  refine gBegin (by decide +kernel) (Nat.le_of_ble_eq_true rfl) (fun p e s m args below meth c A F hr hlocks hname hN hK hP hD hA hS ls hl => ?_)
  obtain ⟨hx, hb, hml, hown, hts⟩ := id F
  replace hP : va_P G.1 vwCl [] s.heap := hP
  replace hl : lv_has ls 2 [(0, .int p0), (1, .int p1)] := hl
  refine lv_iload_n hx hb dX7_until_0 rfl (lv_at hl 0 rfl) ?_
  refine lv_iload_n hx hb dX7_until_1 rfl (lv_at hl 1 rfl) ?_
  refine lv_iload_n hx hb dX7_until_2 rfl (lv_at hl 0 rfl) ?_
  refine lv_bipush (v := 32) hx hb dX7_until_3 (by decide) ?_
  refine gIrem hx hb dX7_until_5 (by decide) ?_
  refine lv_isub hx hb dX7_until_6 ?_
  refine lv_bipush (v := 32) hx hb dX7_until_7 (by decide) ?_
  refine lv_iadd hx hb dX7_until_9 ?_
  refine lv_bipush (v := 32) hx hb dX7_until_10 (by decide) ?_
  refine gIrem hx hb dX7_until_12 (by decide) ?_
  refine lv_iadd hx hb dX7_until_13 ?_
  exact gRetI F hr hlocks hK hP hD hS rfl rfl (Nat.le_of_ble_eq_true rfl) (Nat.le_of_ble_eq_true rfl) dX7_until_14
theorem okS_X7_until : gOkS yX7_until cX7_until 2 (some .int) 2 := ⟨⟨k_st_X7_until, k_in_X7, k_cd_X7_until⟩, by decide, by decide, by decide +kernel⟩
def f_X7_doneAt (p0 : Int32) (p1 : Int32) : Int32 :=
  if (p0 &&& 15) = 0 then
    (p1 + 1)
  else
    if (p0 &&& 15) = 8 then
      (((p1 + 1) + 1) + (((p0 >>> ((7 : Int32) &&& 31)) : Int32) &&& 31))
    else
      if (p0 &&& 15) = 9 then
        (((p1 + 1) + 1) + (((p0 >>> ((7 : Int32) &&& 31)) : Int32) &&& 31))
      else
        if (p0 &&& 15) = 15 then
          (((f_X7_until (p1 + 1) (((p0 >>> ((7 : Int32) &&& 31)) : Int32) &&& 31)) + 32) + 1)
        else
          if 7 < (p0 &&& 15) then
            ((p1 + 1) + 1)
          else
            if (p0 &&& 15) = 7 then
              ((f_X7_until (p1 + 1) (((p0 >>> ((7 : Int32) &&& 31)) : Int32) &&& 31)) + 21)
            else
              ((f_X7_until (p1 + 1) (((p0 >>> ((7 : Int32) &&& 31)) : Int32) &&& 31)) + 1)
set_option maxRecDepth 100000 in
set_option maxHeartbeats 4000000 in
theorem c_X7_doneAt (l : Launch) (G : gG) (p0 : Int32) (p1 : Int32) : gM l G yX7_doneAt cX7_doneAt 5 (some .int) { frames := 1, cells := 0, slots := 0, locals := 21 } [.int p0, .int p1] [] (some (.int (f_X7_doneAt p0 p1))) [] 0 0 := by
  refine gBegin (by decide +kernel) (Nat.le_of_ble_eq_true rfl) (fun p e s m args below meth c A F hr hlocks hname hN hK hP hD hA hS ls hl => ?_)
  obtain ⟨hx, hb, hml, hown, hts⟩ := id F
  replace hP : va_P G.1 vwCl [] s.heap := hP
  replace hl : lv_has ls 5 [(0, .int p0), (1, .int p1)] := hl
  refine lv_iload_n hx hb dX7_doneAt_0 rfl (lv_at hl 0 rfl) ?_
  refine lv_bipush (v := 15) hx hb dX7_doneAt_1 (by decide) ?_
  refine lv_iand hx hb dX7_doneAt_3 ?_
  refine lv_istore_n (lv' := [(2, .int (p0 &&& 15)), (0, .int p0), (1, .int p1)]) hx hb dX7_doneAt_4 rfl hl (by decide) rfl (fun ls hl => ?_)
  refine lv_iload_n hx hb dX7_doneAt_5 rfl (lv_at hl 1 rfl) ?_
  refine lv_bipush (v := 7) hx hb dX7_doneAt_6 (by decide) ?_
  refine lv_ishr hx hb dX7_doneAt_8 ?_
  refine lv_bipush (v := 31) hx hb dX7_doneAt_9 (by decide) ?_
  refine lv_iand hx hb dX7_doneAt_11 ?_
  refine lv_istore_n (lv' := [(3, .int (((p0 >>> ((7 : Int32) &&& 31)) : Int32) &&& 31)), (2, .int (p0 &&& 15)), (0, .int p0), (1, .int p1)]) hx hb dX7_doneAt_12 rfl hl (by decide) rfl (fun ls hl => ?_)
  refine lv_iload_n hx hb dX7_doneAt_13 rfl (lv_at hl 3 rfl) ?_
  refine lv_iconst (v := 1) hx hb dX7_doneAt_14 (by decide) ?_
  refine lv_iadd hx hb dX7_doneAt_15 ?_
  refine lv_istore (lv' := [(4, .int (p1 + 1)), (3, .int (((p0 >>> ((7 : Int32) &&& 31)) : Int32) &&& 31)), (2, .int (p0 &&& 15)), (0, .int p0), (1, .int p1)]) hx hb dX7_doneAt_16 hl (by decide) rfl (fun ls hl => ?_)
  refine lv_iload_n hx hb dX7_doneAt_18 rfl (lv_at hl 2 rfl) ?_
  refine lv_if_ne (tgt := 25) hx hb dX7_doneAt_19 (by decide) (fun c_1 => ?_) (fun c_1 => ?_)
  · skip
    refine lv_iload_n hx hb dX7_doneAt_25 rfl (lv_at hl 2 rfl) ?_
    refine lv_bipush (v := 8) hx hb dX7_doneAt_26 (by decide) ?_
    refine lv_icmp_eq (tgt := 37) hx hb dX7_doneAt_28 (by decide) (fun c_2 => ?_) (fun c_2 => ?_)
    · skip
      refine lv_iload hx hb dX7_doneAt_37 (lv_at hl 0 rfl) ?_
      refine lv_iconst (v := 1) hx hb dX7_doneAt_39 (by decide) ?_
      refine lv_iadd hx hb dX7_doneAt_40 ?_
      refine lv_iload_n hx hb dX7_doneAt_41 rfl (lv_at hl 1 rfl) ?_
      refine lv_iadd hx hb dX7_doneAt_42 ?_
      have ef : (f_X7_doneAt p0 p1) = (((p1 + 1) + 1) + (((p0 >>> ((7 : Int32) &&& 31)) : Int32) &&& 31)) := ((if_neg c_1).trans (if_pos c_2))
      exact gRetI F hr hlocks hK hP hD hS (by rw [ef]) rfl (Nat.le_of_ble_eq_true rfl) (Nat.le_of_ble_eq_true rfl) dX7_doneAt_43
    · skip
      refine lv_iload_n hx hb dX7_doneAt_31 rfl (lv_at hl 2 rfl) ?_
      refine lv_bipush (v := 9) hx hb dX7_doneAt_32 (by decide) ?_
      refine lv_icmp_ne (tgt := 44) hx hb dX7_doneAt_34 (by decide) (fun c_3 => ?_) (fun c_3 => ?_)
      · skip
        refine lv_iload_n hx hb dX7_doneAt_44 rfl (lv_at hl 2 rfl) ?_
        refine lv_bipush (v := 15) hx hb dX7_doneAt_45 (by decide) ?_
        refine lv_icmp_ne (tgt := 62) hx hb dX7_doneAt_47 (by decide) (fun c_4 => ?_) (fun c_4 => ?_)
        · skip
          refine lv_iload_n hx hb dX7_doneAt_62 rfl (lv_at hl 2 rfl) ?_
          refine lv_bipush (v := 7) hx hb dX7_doneAt_63 (by decide) ?_
          refine lv_icmp_gt (tgt := 90) hx hb dX7_doneAt_65 (by decide) (fun c_5 => ?_) (fun c_5 => ?_)
          · skip
            refine lv_iload hx hb dX7_doneAt_90 (lv_at hl 0 rfl) ?_
            refine lv_iconst (v := 1) hx hb dX7_doneAt_92 (by decide) ?_
            refine lv_iadd hx hb dX7_doneAt_93 ?_
            have ef : (f_X7_doneAt p0 p1) = ((p1 + 1) + 1) := ((if_neg c_1).trans ((if_neg c_2).trans ((if_neg c_3).trans ((if_neg c_4).trans (if_pos c_5)))))
            exact gRetI F hr hlocks hK hP hD hS (by rw [ef]) rfl (Nat.le_of_ble_eq_true rfl) (Nat.le_of_ble_eq_true rfl) dX7_doneAt_94
          · skip
            refine lv_iload hx hb dX7_doneAt_68 (lv_at hl 0 rfl) ?_
            refine lv_iload_n hx hb dX7_doneAt_70 rfl (lv_at hl 1 rfl) ?_
            refine gS (As := [.int (p1 + 1), .int (((p0 >>> ((7 : Int32) &&& 31)) : Int32) &&& 31)]) (rest := []) (wr := []) (ws' := []) F (c_X7_until l G (p1 + 1) (((p0 >>> ((7 : Int32) &&& 31)) : Int32) &&& 31)) okS_X7_until k_ml_X7_317 rfl rfl ⟨Nat.le_of_ble_eq_true rfl, Nat.le_of_ble_eq_true rfl⟩ hN hK hP hD hS hA [] [] [] (by decide) rfl rfl (by decide) (by decide) (by decide) rfl rfl rfl hl.1 (Nat.le_of_ble_eq_true rfl) dX7_doneAt_71 ⟨Nat.le_refl _, Nat.le_refl _⟩ (fun H locs hP hD hS => ?_)
            refine lv_iload_n hx hb dX7_doneAt_74 rfl (lv_at hl 2 rfl) ?_
            refine lv_bipush (v := 7) hx hb dX7_doneAt_75 (by decide) ?_
            refine lv_icmp_ne (tgt := 85) hx hb dX7_doneAt_77 (by decide) (fun c_6 => ?_) (fun c_6 => ?_)
            · skip
              refine lv_iconst (v := 1) hx hb dX7_doneAt_85 (by decide) ?_
              refine lv_iadd hx hb dX7_doneAt_86 ?_
              refine lv_goto (tgt := 94) hx hb dX7_doneAt_87 (by decide) ?_
              have ef : (f_X7_doneAt p0 p1) = ((f_X7_until (p1 + 1) (((p0 >>> ((7 : Int32) &&& 31)) : Int32) &&& 31)) + 1) := ((if_neg c_1).trans ((if_neg c_2).trans ((if_neg c_3).trans ((if_neg c_4).trans ((if_neg c_5).trans (if_neg c_6))))))
              exact gRetI F hr hlocks hK hP hD hS (by rw [ef]) rfl (Nat.le_of_ble_eq_true rfl) (Nat.le_of_ble_eq_true rfl) dX7_doneAt_94
            · skip
              refine lv_bipush (v := 21) hx hb dX7_doneAt_80 (by decide) ?_
              refine lv_goto (tgt := 86) hx hb dX7_doneAt_82 (by decide) ?_
              refine lv_iadd hx hb dX7_doneAt_86 ?_
              refine lv_goto (tgt := 94) hx hb dX7_doneAt_87 (by decide) ?_
              have ef : (f_X7_doneAt p0 p1) = ((f_X7_until (p1 + 1) (((p0 >>> ((7 : Int32) &&& 31)) : Int32) &&& 31)) + 21) := ((if_neg c_1).trans ((if_neg c_2).trans ((if_neg c_3).trans ((if_neg c_4).trans ((if_neg c_5).trans (if_pos c_6))))))
              exact gRetI F hr hlocks hK hP hD hS (by rw [ef]) rfl (Nat.le_of_ble_eq_true rfl) (Nat.le_of_ble_eq_true rfl) dX7_doneAt_94
        · skip
          refine lv_iload hx hb dX7_doneAt_50 (lv_at hl 0 rfl) ?_
          refine lv_iload_n hx hb dX7_doneAt_52 rfl (lv_at hl 1 rfl) ?_
          refine gS (As := [.int (p1 + 1), .int (((p0 >>> ((7 : Int32) &&& 31)) : Int32) &&& 31)]) (rest := []) (wr := []) (ws' := []) F (c_X7_until l G (p1 + 1) (((p0 >>> ((7 : Int32) &&& 31)) : Int32) &&& 31)) okS_X7_until k_ml_X7_317 rfl rfl ⟨Nat.le_of_ble_eq_true rfl, Nat.le_of_ble_eq_true rfl⟩ hN hK hP hD hS hA [] [] [] (by decide) rfl rfl (by decide) (by decide) (by decide) rfl rfl rfl hl.1 (Nat.le_of_ble_eq_true rfl) dX7_doneAt_53 ⟨Nat.le_refl _, Nat.le_refl _⟩ (fun H locs hP hD hS => ?_)
          refine lv_bipush (v := 32) hx hb dX7_doneAt_56 (by decide) ?_
          refine lv_iadd hx hb dX7_doneAt_58 ?_
          refine lv_iconst (v := 1) hx hb dX7_doneAt_59 (by decide) ?_
          refine lv_iadd hx hb dX7_doneAt_60 ?_
          have ef : (f_X7_doneAt p0 p1) = (((f_X7_until (p1 + 1) (((p0 >>> ((7 : Int32) &&& 31)) : Int32) &&& 31)) + 32) + 1) := ((if_neg c_1).trans ((if_neg c_2).trans ((if_neg c_3).trans (if_pos c_4))))
          exact gRetI F hr hlocks hK hP hD hS (by rw [ef]) rfl (Nat.le_of_ble_eq_true rfl) (Nat.le_of_ble_eq_true rfl) dX7_doneAt_61
      · skip
        refine lv_iload hx hb dX7_doneAt_37 (lv_at hl 0 rfl) ?_
        refine lv_iconst (v := 1) hx hb dX7_doneAt_39 (by decide) ?_
        refine lv_iadd hx hb dX7_doneAt_40 ?_
        refine lv_iload_n hx hb dX7_doneAt_41 rfl (lv_at hl 1 rfl) ?_
        refine lv_iadd hx hb dX7_doneAt_42 ?_
        have ef : (f_X7_doneAt p0 p1) = (((p1 + 1) + 1) + (((p0 >>> ((7 : Int32) &&& 31)) : Int32) &&& 31)) := ((if_neg c_1).trans ((if_neg c_2).trans (if_pos c_3)))
        exact gRetI F hr hlocks hK hP hD hS (by rw [ef]) rfl (Nat.le_of_ble_eq_true rfl) (Nat.le_of_ble_eq_true rfl) dX7_doneAt_43
  · skip
    refine lv_iload hx hb dX7_doneAt_22 (lv_at hl 0 rfl) ?_
    have ef : (f_X7_doneAt p0 p1) = (p1 + 1) := (if_pos c_1)
    exact gRetI F hr hlocks hK hP hD hS (by rw [ef]) rfl (Nat.le_of_ble_eq_true rfl) (Nat.le_of_ble_eq_true rfl) dX7_doneAt_24
theorem okS_X7_doneAt : gOkS yX7_doneAt cX7_doneAt 5 (some .int) 2 := ⟨⟨k_st_X7_doneAt, k_in_X7, k_cd_X7_doneAt⟩, by decide, by decide, by decide +kernel⟩
def f_X7_idealOf (w : Nat → Int32) (p0 : Int32) : Int32 :=
  ((f_X7_doneAt (w (Int32.toNatClampNeg (414 + p0))) (p0 % 32)) % 32)
set_option maxRecDepth 100000 in
set_option maxHeartbeats 4000000 in
theorem c_X7_idealOf (l : Launch) (G : gG) (m0 : Nat) (m1 : Nat) (m2 : Nat) (m3 : Nat) (m6 : Nat) (m13 : Nat) (m14 : Nat) (m17 : Nat) (m18 : Nat) (m19 : Nat) (rz : Int32) (hf : Int32) (hs : Int32) (len : Int32) (ec : Int32) (ep : Int32) (pos : Int32) (bg : Int32) (bad : Int32) (plc : Int32) (sta : Int32) (shm : Int32) (w : Nat → Int32) (p0 : Int32) (hop : 0 ≤ p0.toInt ∧ p0.toInt < 256) : gM l G yX7_idealOf cX7_idealOf 2 (some .int) { frames := 2, cells := 0, slots := 0, locals := 45 } [.ref m0, .int p0] [(m0, .inr (10, [.int rz, .ref m1, .ref m2, .ref m3, .int hf, .int hs, .ref m6, .int len, .int ec, .int ep, .int pos, .int bg, .int bad, .ref m13, .ref m14, .int plc, .int sta, .ref m17, .ref m18, .ref m19, .int shm])), (m1, .inl (G.2.1.1, 670, .inl w))] (some (.int (f_X7_idealOf w p0))) [(m0, .inr (10, [.int rz, .ref m1, .ref m2, .ref m3, .int hf, .int hs, .ref m6, .int len, .int ec, .int ep, .int pos, .int bg, .int bad, .ref m13, .ref m14, .int plc, .int sta, .ref m17, .ref m18, .ref m19, .int shm])), (m1, .inl (G.2.1.1, 670, .inl w))] 0 0 := by
  refine gBegin (by decide +kernel) (Nat.le_of_ble_eq_true rfl) (fun p e s m args below meth c A F hr hlocks hname hN hK hP hD hA hS ls hl => ?_)
  obtain ⟨hx, hb, hml, hown, hts⟩ := id F
  replace hP : va_P G.1 vwCl [(m0, .inr (10, [.int rz, .ref m1, .ref m2, .ref m3, .int hf, .int hs, .ref m6, .int len, .int ec, .int ep, .int pos, .int bg, .int bad, .ref m13, .ref m14, .int plc, .int sta, .ref m17, .ref m18, .ref m19, .int shm])), (m1, .inl (G.2.1.1, 670, .inl w))] s.heap := hP
  replace hl : lv_has ls 2 [(0, .ref m0), (1, .int p0)] := hl
  refine lv_aload_n hx hb dX7_idealOf_0 rfl (lv_at hl 0 rfl) ?_
  refine va_get (D := G.1) (ci := 10) (v := .ref m1) (C := RX7) (T := TX7) (N := 21) hx hb hts in_X7 hown hK hP 0 rfl rfl 1 (by decide) (hts _ k_fl_X7_7) (fun _ h9 => h9) rfl dX7_idealOf_1 ?_
  refine lv_sipush (v := 414) hx hb dX7_idealOf_4 (by decide) ?_
  refine lv_iload_n hx hb dX7_idealOf_7 rfl (lv_at hl 1 rfl) ?_
  refine lv_iadd hx hb dX7_idealOf_8 ?_
  refine va_iald hx hb hK hP 1 0 rfl rfl (by have z0 : (414 : Int32).toInt = 414 := (by decide); (try have z2 := gI_add (x := 414) (y := p0) (by omega) (by omega)); (try rw [vp_in_iff]); omega) dX7_idealOf_9 ?_
  refine lv_iload_n hx hb dX7_idealOf_10 rfl (lv_at hl 1 rfl) ?_
  refine lv_bipush (v := 32) hx hb dX7_idealOf_11 (by decide) ?_
  refine gIrem hx hb dX7_idealOf_13 (by decide) ?_
  refine gS (As := [.int (w (Int32.toNatClampNeg (414 + p0))), .int (p0 % 32)]) (rest := []) (wr := [(m0, .inr (10, [.int rz, .ref m1, .ref m2, .ref m3, .int hf, .int hs, .ref m6, .int len, .int ec, .int ep, .int pos, .int bg, .int bad, .ref m13, .ref m14, .int plc, .int sta, .ref m17, .ref m18, .ref m19, .int shm])), (m1, .inl (G.2.1.1, 670, .inl w))]) (ws' := [(m0, .inr (10, [.int rz, .ref m1, .ref m2, .ref m3, .int hf, .int hs, .ref m6, .int len, .int ec, .int ep, .int pos, .int bg, .int bad, .ref m13, .ref m14, .int plc, .int sta, .ref m17, .ref m18, .ref m19, .int shm])), (m1, .inl (G.2.1.1, 670, .inl w))]) F (c_X7_doneAt l G (w (Int32.toNatClampNeg (414 + p0))) (p0 % 32)) okS_X7_doneAt k_ml_X7_320 rfl rfl ⟨Nat.le_of_ble_eq_true rfl, Nat.le_of_ble_eq_true rfl⟩ hN hK hP hD hS hA [] [0, 1] [0, 1] (by decide) rfl rfl (by decide) (by decide) (by decide) rfl rfl rfl hl.1 (Nat.le_of_ble_eq_true rfl) dX7_idealOf_14 ⟨Nat.le_refl _, Nat.le_refl _⟩ (fun H locs hP hD hS => ?_)
  refine lv_bipush (v := 32) hx hb dX7_idealOf_17 (by decide) ?_
  refine gIrem hx hb dX7_idealOf_19 (by decide) ?_
  exact gRetI F hr hlocks hK hP hD hS rfl rfl (Nat.le_of_ble_eq_true rfl) (Nat.le_of_ble_eq_true rfl) dX7_idealOf_20
theorem okV_X7_idealOf : gOkV yX7_idealOf cX7_idealOf 2 (some .int) 1 := ⟨⟨k_im_X7_idealOf, k_se_X7_idealOf, k_in_X7, k_cd_X7_idealOf⟩, by decide, by decide, by decide +kernel⟩
def f_X7_idealNextCycle (w : Nat → Int32) (p0 : Int32) (p1 : Int32) : Int32 × Int32 :=
  if (f_X7_isLocation p0 p1) = 0 then
    ((f_X7_fails 1).1, (f_X7_fails 1).2)
  else
    ((f_X7_idealOf w ((32 * p0) + p1)), 0)
set_option maxRecDepth 100000 in
set_option maxHeartbeats 4000000 in
theorem c_X7_idealNextCycle (l : Launch) (G : gG) (m0 : Nat) (m1 : Nat) (m2 : Nat) (m3 : Nat) (m6 : Nat) (m13 : Nat) (m14 : Nat) (m17 : Nat) (m18 : Nat) (m19 : Nat) (rz : Int32) (hf : Int32) (hs : Int32) (len : Int32) (ec : Int32) (ep : Int32) (pos : Int32) (bg : Int32) (bad : Int32) (plc : Int32) (sta : Int32) (shm : Int32) (w : Nat → Int32) (p0 : Int32) (p1 : Int32) : gM l G yX7_idealNextCycle cX7_idealNextCycle 3 (some .int) { frames := 3, cells := 0, slots := 0, locals := 66 } [.ref m0, .int p0, .int p1] [(m0, .inr (10, [.int rz, .ref m1, .ref m2, .ref m3, .int hf, .int hs, .ref m6, .int len, .int ec, .int ep, .int pos, .int bg, .int bad, .ref m13, .ref m14, .int plc, .int sta, .ref m17, .ref m18, .ref m19, .int shm])), (m1, .inl (G.2.1.1, 670, .inl w))] (some (.int ((f_X7_idealNextCycle w p0 p1).1))) [(m0, .inr (10, [.int ((f_X7_idealNextCycle w p0 p1).2), .ref m1, .ref m2, .ref m3, .int hf, .int hs, .ref m6, .int len, .int ec, .int ep, .int pos, .int bg, .int bad, .ref m13, .ref m14, .int plc, .int sta, .ref m17, .ref m18, .ref m19, .int shm])), (m1, .inl (G.2.1.1, 670, .inl w))] 0 0 := by
  refine gBegin (by decide +kernel) (Nat.le_of_ble_eq_true rfl) (fun p e s m args below meth c A F hr hlocks hname hN hK hP hD hA hS ls hl => ?_)
  obtain ⟨hx, hb, hml, hown, hts⟩ := id F
  replace hP : va_P G.1 vwCl [(m0, .inr (10, [.int rz, .ref m1, .ref m2, .ref m3, .int hf, .int hs, .ref m6, .int len, .int ec, .int ep, .int pos, .int bg, .int bad, .ref m13, .ref m14, .int plc, .int sta, .ref m17, .ref m18, .ref m19, .int shm])), (m1, .inl (G.2.1.1, 670, .inl w))] s.heap := hP
  replace hl : lv_has ls 3 [(0, .ref m0), (1, .int p0), (2, .int p1)] := hl
  refine lv_aload_n hx hb dX7_idealNextCycle_0 rfl (lv_at hl 0 rfl) ?_
  refine lv_iconst (v := 0) hx hb dX7_idealNextCycle_1 (by decide) ?_
  refine va_put (D := G.1) (ci := 10) (v := .int 0) (ty := .int) (C := RX7) (T := TX7) (N := 21) hx hb hts in_X7 tyX7 tyX7_ok nmX7 hown hK hP hD hS 0 rfl rfl 0 (by decide) (hts _ k_fl_X7_76) (fun _ h9 => h9) rfl (by decide +kernel) rfl rfl (Nat.le_of_ble_eq_true rfl) dX7_idealNextCycle_2 (fun H locs hP hD hS => ?_)
  replace hP : va_P G.1 vwCl [(m0, .inr (10, [.int 0, .ref m1, .ref m2, .ref m3, .int hf, .int hs, .ref m6, .int len, .int ec, .int ep, .int pos, .int bg, .int bad, .ref m13, .ref m14, .int plc, .int sta, .ref m17, .ref m18, .ref m19, .int shm])), (m1, .inl (G.2.1.1, 670, .inl w))] H := hP
  replace hD : va_D A [(m0, .inr (10, [.int 0, .ref m1, .ref m2, .ref m3, .int hf, .int hs, .ref m6, .int len, .int ec, .int ep, .int pos, .int bg, .int bad, .ref m13, .ref m14, .int plc, .int sta, .ref m17, .ref m18, .ref m19, .int shm])), (m1, .inl (G.2.1.1, 670, .inl w))] := hD
  refine lv_iload_n hx hb dX7_idealNextCycle_5 rfl (lv_at hl 1 rfl) ?_
  refine lv_iload_n hx hb dX7_idealNextCycle_6 rfl (lv_at hl 2 rfl) ?_
  refine gS (As := [.int p0, .int p1]) (rest := []) (wr := [(m0, .inr (10, [.int 0, .ref m1, .ref m2, .ref m3, .int hf, .int hs, .ref m6, .int len, .int ec, .int ep, .int pos, .int bg, .int bad, .ref m13, .ref m14, .int plc, .int sta, .ref m17, .ref m18, .ref m19, .int shm])), (m1, .inl (G.2.1.1, 670, .inl w))]) (ws' := [(m0, .inr (10, [.int 0, .ref m1, .ref m2, .ref m3, .int hf, .int hs, .ref m6, .int len, .int ec, .int ep, .int pos, .int bg, .int bad, .ref m13, .ref m14, .int plc, .int sta, .ref m17, .ref m18, .ref m19, .int shm])), (m1, .inl (G.2.1.1, 670, .inl w))]) F (c_X7_isLocation l G p0 p1) okS_X7_isLocation k_ml_X7_193 rfl rfl ⟨Nat.le_of_ble_eq_true rfl, Nat.le_of_ble_eq_true rfl⟩ hN hK hP hD hS hA [] [0, 1] [0, 1] (by decide) rfl rfl (by decide) (by decide) (by decide) rfl rfl rfl hl.1 (Nat.le_of_ble_eq_true rfl) dX7_idealNextCycle_7 ⟨Nat.le_refl _, Nat.le_refl _⟩ (fun H locs hP hD hS => ?_)
  refine lv_if_eq (tgt := 26) hx hb dX7_idealNextCycle_10 (by decide) (fun c_1 => ?_) (fun c_1 => ?_)
  · skip
    refine lv_aload_n hx hb dX7_idealNextCycle_26 rfl (lv_at hl 0 rfl) ?_
    refine lv_iconst (v := 1) hx hb dX7_idealNextCycle_27 (by decide) ?_
    refine gV (As := [.int 1]) (rest := []) (wr := [(m1, .inl (G.2.1.1, 670, .inl w))]) (ws' := [(m0, .inr (10, [.int ((f_X7_fails 1).2), .ref m1, .ref m2, .ref m3, .int hf, .int hs, .ref m6, .int len, .int ec, .int ep, .int pos, .int bg, .int bad, .ref m13, .ref m14, .int plc, .int sta, .ref m17, .ref m18, .ref m19, .int shm])), (m1, .inl (G.2.1.1, 670, .inl w))]) F (c_X7_fails l G m0 m1 m2 m3 m6 m13 m14 m17 m18 m19 0 hf hs len ec ep pos bg bad plc sta shm 1) okV_X7_fails k_ml_X7_98 rfl rfl ⟨Nat.le_of_ble_eq_true rfl, Nat.le_of_ble_eq_true rfl⟩ hN hK hP hD hS hA [0] [1] [1, 0] (by decide) rfl rfl (by decide) (by decide) (by decide) rfl (q0 := 0) rfl rfl rfl rfl hl.1 (Nat.le_of_ble_eq_true rfl) dX7_idealNextCycle_28 ⟨Nat.le_refl _, Nat.le_refl _⟩ (fun H locs hP hD hS => ?_)
    have ef : (f_X7_idealNextCycle w p0 p1) = ((f_X7_fails 1).1, (f_X7_fails 1).2) := (if_pos c_1)
    exact gRetI F hr hlocks hK hP hD hS (by rw [ef]) (by rw [ef]) (Nat.le_of_ble_eq_true rfl) (Nat.le_of_ble_eq_true rfl) dX7_idealNextCycle_31
  · skip
    refine lv_aload_n hx hb dX7_idealNextCycle_13 rfl (lv_at hl 0 rfl) ?_
    refine lv_bipush (v := 32) hx hb dX7_idealNextCycle_14 (by decide) ?_
    refine lv_iload_n hx hb dX7_idealNextCycle_16 rfl (lv_at hl 1 rfl) ?_
    refine lv_imul hx hb dX7_idealNextCycle_17 ?_
    refine lv_iload_n hx hb dX7_idealNextCycle_18 rfl (lv_at hl 2 rfl) ?_
    refine lv_iadd hx hb dX7_idealNextCycle_19 ?_
    refine gV (As := [.int ((32 * p0) + p1)]) (rest := []) (wr := []) (ws' := [(m0, .inr (10, [.int 0, .ref m1, .ref m2, .ref m3, .int hf, .int hs, .ref m6, .int len, .int ec, .int ep, .int pos, .int bg, .int bad, .ref m13, .ref m14, .int plc, .int sta, .ref m17, .ref m18, .ref m19, .int shm])), (m1, .inl (G.2.1.1, 670, .inl w))]) F (c_X7_idealOf l G m0 m1 m2 m3 m6 m13 m14 m17 m18 m19 0 hf hs len ec ep pos bg bad plc sta shm w ((32 * p0) + p1) (by have qc_1 := loc_of c_1; have z0 : (32 : Int32).toInt = 32 := (by decide); (try have z2 := gI_mul (x := 32) (y := p0) (by (try rw [z0]); (try rw [z1]); omega) (by (try rw [z0]); (try rw [z1]); omega)); (try rw [z0, z1] at z2); (try rw [z0] at z2); (try rw [z1] at z2); (try have z4 := gI_add (x := (32 * p0)) (y := p1) (by omega) (by omega)); omega)) okV_X7_idealOf k_ml_X7_323 rfl rfl ⟨Nat.le_of_ble_eq_true rfl, Nat.le_of_ble_eq_true rfl⟩ hN hK hP hD hS hA [0, 1] [] [0, 1] (by decide) rfl rfl (by decide) (by decide) (by decide) rfl (q0 := 0) rfl rfl rfl rfl hl.1 (Nat.le_of_ble_eq_true rfl) dX7_idealNextCycle_20 ⟨Nat.le_refl _, Nat.le_refl _⟩ (fun H locs hP hD hS => ?_)
    refine lv_goto (tgt := 31) hx hb dX7_idealNextCycle_23 (by decide) ?_
    have ef : (f_X7_idealNextCycle w p0 p1) = ((f_X7_idealOf w ((32 * p0) + p1)), 0) := (if_neg c_1)
    exact gRetI F hr hlocks hK hP hD hS (by rw [ef]) (by rw [ef]) (Nat.le_of_ble_eq_true rfl) (Nat.le_of_ble_eq_true rfl) dX7_idealNextCycle_31
theorem okV_X7_idealNextCycle : gOkV yX7_idealNextCycle cX7_idealNextCycle 3 (some .int) 2 := ⟨⟨k_im_X7_idealNextCycle, k_se_X7_idealNextCycle, k_in_X7, k_cd_X7_idealNextCycle⟩, by decide, by decide, by decide +kernel⟩
def f_X7_shows (shm : Int32) (shown : Nat → Int32) (p0 : Int32) : Int32 × (Nat → Int32) :=
  ((shm + 1), (upd shown (Int32.toNatClampNeg shm) p0))
set_option maxRecDepth 100000 in
set_option maxHeartbeats 4000000 in
theorem c_X7_shows (l : Launch) (G : gG) (m0 : Nat) (m1 : Nat) (m2 : Nat) (m3 : Nat) (m6 : Nat) (m13 : Nat) (m14 : Nat) (m17 : Nat) (m18 : Nat) (m19 : Nat) (rz : Int32) (hf : Int32) (hs : Int32) (len : Int32) (ec : Int32) (ep : Int32) (pos : Int32) (bg : Int32) (bad : Int32) (plc : Int32) (sta : Int32) (shm : Int32) (shown : Nat → Int32) (p0 : Int32) (hsh : 0 ≤ shm.toInt ∧ shm.toInt < 40) : gM l G yX7_shows cX7_shows 2 none { frames := 0, cells := 0, slots := 0, locals := 0 } [.ref m0, .int p0] [(m0, .inr (10, [.int rz, .ref m1, .ref m2, .ref m3, .int hf, .int hs, .ref m6, .int len, .int ec, .int ep, .int pos, .int bg, .int bad, .ref m13, .ref m14, .int plc, .int sta, .ref m17, .ref m18, .ref m19, .int shm])), (m19, .inl (G.2.1.1, 40, .inl shown))] none [(m0, .inr (10, [.int rz, .ref m1, .ref m2, .ref m3, .int hf, .int hs, .ref m6, .int len, .int ec, .int ep, .int pos, .int bg, .int bad, .ref m13, .ref m14, .int plc, .int sta, .ref m17, .ref m18, .ref m19, .int ((f_X7_shows shm shown p0).1)])), (m19, .inl (G.2.1.1, 40, .inl ((f_X7_shows shm shown p0).2)))] 0 0 := by
  refine gBegin (by decide +kernel) (Nat.le_of_ble_eq_true rfl) (fun p e s m args below meth c A F hr hlocks hname hN hK hP hD hA hS ls hl => ?_)
  obtain ⟨hx, hb, hml, hown, hts⟩ := id F
  replace hP : va_P G.1 vwCl [(m0, .inr (10, [.int rz, .ref m1, .ref m2, .ref m3, .int hf, .int hs, .ref m6, .int len, .int ec, .int ep, .int pos, .int bg, .int bad, .ref m13, .ref m14, .int plc, .int sta, .ref m17, .ref m18, .ref m19, .int shm])), (m19, .inl (G.2.1.1, 40, .inl shown))] s.heap := hP
  replace hl : lv_has ls 2 [(0, .ref m0), (1, .int p0)] := hl
  refine lv_aload_n hx hb dX7_shows_0 rfl (lv_at hl 0 rfl) ?_
  refine va_get (D := G.1) (ci := 10) (v := .ref m19) (C := RX7) (T := TX7) (N := 21) hx hb hts in_X7 hown hK hP 0 rfl rfl 19 (by decide) (hts _ k_fl_X7_72) (fun _ h9 => h9) rfl dX7_shows_1 ?_
  refine lv_aload_n hx hb dX7_shows_4 rfl (lv_at hl 0 rfl) ?_
  refine va_get (D := G.1) (ci := 10) (v := .int shm) (C := RX7) (T := TX7) (N := 21) hx hb hts in_X7 hown hK hP 0 rfl rfl 20 (by decide) (hts _ k_fl_X7_331) (fun _ h9 => h9) rfl dX7_shows_5 ?_
  refine lv_iload_n hx hb dX7_shows_8 rfl (lv_at hl 1 rfl) ?_
  refine va_iast hx hb hK hP hD hS 1 0 rfl rfl (by (try rw [vp_in_iff]); omega) dX7_shows_9 (fun H locs hP hD hS => ?_)
  replace hP : va_P G.1 vwCl [(m0, .inr (10, [.int rz, .ref m1, .ref m2, .ref m3, .int hf, .int hs, .ref m6, .int len, .int ec, .int ep, .int pos, .int bg, .int bad, .ref m13, .ref m14, .int plc, .int sta, .ref m17, .ref m18, .ref m19, .int shm])), (m19, .inl (G.2.1.1, 40, .inl (upd shown (Int32.toNatClampNeg shm) p0)))] H := hP
  replace hD : va_D A [(m0, .inr (10, [.int rz, .ref m1, .ref m2, .ref m3, .int hf, .int hs, .ref m6, .int len, .int ec, .int ep, .int pos, .int bg, .int bad, .ref m13, .ref m14, .int plc, .int sta, .ref m17, .ref m18, .ref m19, .int shm])), (m19, .inl (G.2.1.1, 40, .inl (upd shown (Int32.toNatClampNeg shm) p0)))] := hD
  refine lv_aload_n hx hb dX7_shows_10 rfl (lv_at hl 0 rfl) ?_
  refine lv_dup hx hb dX7_shows_11 rfl ?_
  refine va_get (D := G.1) (ci := 10) (v := .int shm) (C := RX7) (T := TX7) (N := 21) hx hb hts in_X7 hown hK hP 0 rfl rfl 20 (by decide) (hts _ k_fl_X7_331) (fun _ h9 => h9) rfl dX7_shows_12 ?_
  refine lv_iconst (v := 1) hx hb dX7_shows_15 (by decide) ?_
  refine lv_iadd hx hb dX7_shows_16 ?_
  refine va_put (D := G.1) (ci := 10) (v := .int (shm + 1)) (ty := .int) (C := RX7) (T := TX7) (N := 21) hx hb hts in_X7 tyX7 tyX7_ok nmX7 hown hK hP hD hS 0 rfl rfl 20 (by decide) (hts _ k_fl_X7_331) (fun _ h9 => h9) rfl (by decide +kernel) rfl rfl (Nat.le_of_ble_eq_true rfl) dX7_shows_17 (fun H locs hP hD hS => ?_)
  replace hP : va_P G.1 vwCl [(m0, .inr (10, [.int rz, .ref m1, .ref m2, .ref m3, .int hf, .int hs, .ref m6, .int len, .int ec, .int ep, .int pos, .int bg, .int bad, .ref m13, .ref m14, .int plc, .int sta, .ref m17, .ref m18, .ref m19, .int (shm + 1)])), (m19, .inl (G.2.1.1, 40, .inl (upd shown (Int32.toNatClampNeg shm) p0)))] H := hP
  replace hD : va_D A [(m0, .inr (10, [.int rz, .ref m1, .ref m2, .ref m3, .int hf, .int hs, .ref m6, .int len, .int ec, .int ep, .int pos, .int bg, .int bad, .ref m13, .ref m14, .int plc, .int sta, .ref m17, .ref m18, .ref m19, .int (shm + 1)])), (m19, .inl (G.2.1.1, 40, .inl (upd shown (Int32.toNatClampNeg shm) p0)))] := hD
  exact gRetV F hr hlocks hK hP hD hS rfl rfl (Nat.le_of_ble_eq_true rfl) (Nat.le_of_ble_eq_true rfl) dX7_shows_20
theorem okV_X7_shows : gOkV yX7_shows cX7_shows 2 none 1 := ⟨⟨k_im_X7_shows, k_se_X7_shows, k_in_X7, k_cd_X7_shows⟩, by decide, by decide, by decide +kernel⟩
