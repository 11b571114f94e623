theorem nxt_pos {x n : Int32} (h : ¬ n ≤ x) (h0 : 0 ≤ x.toInt) : 0 ≤ (x + 1).toInt := by
  rw [gI_le] at h
  have r1 := Int32.toInt_lt n
  have o1 : (1 : Int32).toInt = 1 := (by decide)
  have e1 := gI_add (x := x) (y := 1) (by omega) (by omega)
  omega
def wl_X7_here (len : Int32) (pos : Int32) (text : Nat → Int32) : Nat → Int32 → Int32 × Int32
  | 0, _ => (0, pos)
  | n + 1, y0_10 =>
    if len ≤ y0_10 then
      ((-1), y0_10)
    else
      if (text (Int32.toNatClampNeg y0_10)) = 32 then
        wl_X7_here len pos text n (y0_10 + 1)
      else
        if (text (Int32.toNatClampNeg y0_10)) = 10 then
          wl_X7_here len pos text n (y0_10 + 1)
        else
          ((text (Int32.toNatClampNeg y0_10)), y0_10)
def f_X7_here (len : Int32) (pos : Int32) (text : Nat → Int32) : Int32 × Int32 :=
  (wl_X7_here len pos text 701 pos)
set_option maxRecDepth 100000 in
set_option maxHeartbeats 4000000 in
theorem c_X7_here (l : Launch) (G : gG) (m0 : Nat) (m1 : Nat) (m2 : Nat) (m3 : Nat) (m6 : Nat) (m13 : Nat) (m14 : Nat) (m17 : Nat) (m18 : Nat) (m19 : Nat) (rz : Int32) (hf : Int32) (hs : Int32) (len : Int32) (ec : Int32) (ep : Int32) (pos : Int32) (bg : Int32) (bad : Int32) (plc : Int32) (sta : Int32) (shm : Int32) (text : Nat → Int32) (hlen : 0 ≤ len.toInt ∧ len.toInt ≤ 600) (hpos : 0 ≤ pos.toInt ∧ pos.toInt ≤ 700) : gM l G yX7_here cX7_here 1 (some .int) { frames := 0, cells := 0, slots := 0, locals := 0 } [.ref m0] [(m0, .inr (10, [.int rz, .ref m1, .ref m2, .ref m3, .int hf, .int hs, .ref m6, .int len, .int ec, .int ep, .int pos, .int bg, .int bad, .ref m13, .ref m14, .int plc, .int sta, .ref m17, .ref m18, .ref m19, .int shm])), (m6, .inl (G.2.1.1, 600, .inl text))] (some (.int ((f_X7_here len pos text).1))) [(m0, .inr (10, [.int rz, .ref m1, .ref m2, .ref m3, .int hf, .int hs, .ref m6, .int len, .int ec, .int ep, .int ((f_X7_here len pos text).2), .int bg, .int bad, .ref m13, .ref m14, .int plc, .int sta, .ref m17, .ref m18, .ref m19, .int shm])), (m6, .inl (G.2.1.1, 600, .inl text))] 0 0 := by
  refine gBegin (by decide +kernel) (Nat.le_of_ble_eq_true rfl) (fun p e s m args below meth c A F hr hlocks hname hN hK hP hD hA hS ls hl => ?_)
  obtain ⟨hx, hb, hml, hown, hts⟩ := id F
  replace hP : va_P G.1 vwCl [(m0, .inr (10, [.int rz, .ref m1, .ref m2, .ref m3, .int hf, .int hs, .ref m6, .int len, .int ec, .int ep, .int pos, .int bg, .int bad, .ref m13, .ref m14, .int plc, .int sta, .ref m17, .ref m18, .ref m19, .int shm])), (m6, .inl (G.2.1.1, 600, .inl text))] s.heap := hP
  replace hl : lv_has ls 1 [(0, .ref m0)] := hl
  have loop_0 : ∀ (fu : Nat) (y0_10 : Int32), (0 ≤ y0_10.toInt) → (len.toInt - y0_10.toInt).toNat < fu → (f_X7_here len pos text) = wl_X7_here len pos text fu y0_10 → ∀ (H : Heap) (locs : List Loc), va_P G.1 vwCl [(m0, .inr (10, [.int rz, .ref m1, .ref m2, .ref m3, .int hf, .int hs, .ref m6, .int len, .int ec, .int ep, .int y0_10, .int bg, .int bad, .ref m13, .ref m14, .int plc, .int sta, .ref m17, .ref m18, .ref m19, .int shm])), (m6, .inl (G.2.1.1, 600, .inl text))] H → va_D A [(m0, .inr (10, [.int rz, .ref m1, .ref m2, .ref m3, .int hf, .int hs, .ref m6, .int len, .int ec, .int ep, .int y0_10, .int bg, .int bad, .ref m13, .ref m14, .int plc, .int sta, .ref m17, .ref m18, .ref m19, .int shm])), (m6, .inl (G.2.1.1, 600, .inl text))] → va_S A s.heap H locs → ∀ ls : Array Slot, lv_has ls 1 [(0, .ref m0)] → W p l e { frames := 0, cells := 0, slots := 0, locals := 0 } s m args below meth c H locs 0 0 (MQ below (gQ G (some (.int ((f_X7_here len pos text).1))) [(m0, .inr (10, [.int rz, .ref m1, .ref m2, .ref m3, .int hf, .int hs, .ref m6, .int len, .int ec, .int ep, .int ((f_X7_here len pos text).2), .int bg, .int bad, .ref m13, .ref m14, .int plc, .int sta, .ref m17, .ref m18, .ref m19, .int shm])), (m6, .inl (G.2.1.1, 600, .inl text))] A) args s 0 0 A) (F0 m 0 ls []) := by
    intro fu
    induction fu with
    | zero =>
      intro y0_10 hI hn
      exact absurd hn (Nat.not_lt_zero _)
    | succ fu ih =>
      intro y0_10 hI hn hO H locs hP hD hS ls hl
      refine lv_aload_n hx hb dX7_here_0 rfl (lv_at hl 0 rfl) ?_
      refine va_get (D := G.1) (ci := 10) (v := .int y0_10) (C := RX7) (T := TX7) (N := 21) hx hb hts in_X7 hown hK hP 0 rfl rfl 10 (by decide) (hts _ k_fl_X7_106) (fun _ h9 => h9) rfl dX7_here_1 ?_
      refine lv_aload_n hx hb dX7_here_4 rfl (lv_at hl 0 rfl) ?_
      refine va_get (D := G.1) (ci := 10) (v := .int len) (C := RX7) (T := TX7) (N := 21) hx hb hts in_X7 hown hK hP 0 rfl rfl 7 (by decide) (hts _ k_fl_X7_95) (fun _ h9 => h9) rfl dX7_here_5 ?_
      refine lv_icmp_ge (tgt := 52) hx hb dX7_here_8 (by decide) (fun c_1 => ?_) (fun c_1 => ?_)
      · skip
        refine lv_aload_n hx hb dX7_here_52 rfl (lv_at hl 0 rfl) ?_
        refine va_get (D := G.1) (ci := 10) (v := .int y0_10) (C := RX7) (T := TX7) (N := 21) hx hb hts in_X7 hown hK hP 0 rfl rfl 10 (by decide) (hts _ k_fl_X7_106) (fun _ h9 => h9) rfl dX7_here_53 ?_
        refine lv_aload_n hx hb dX7_here_56 rfl (lv_at hl 0 rfl) ?_
        refine va_get (D := G.1) (ci := 10) (v := .int len) (C := RX7) (T := TX7) (N := 21) hx hb hts in_X7 hown hK hP 0 rfl rfl 7 (by decide) (hts _ k_fl_X7_95) (fun _ h9 => h9) rfl dX7_here_57 ?_
        refine lv_icmp_ge (tgt := 75) hx hb dX7_here_60 (by decide) (fun c_2 => ?_) (fun c_2 => ?_)
        · skip
          refine lv_iconst (v := (-1)) hx hb dX7_here_75 (by decide) ?_
          have ef : (f_X7_here len pos text) = ((-1), y0_10) := (hO.trans (if_pos c_1))
          exact gRetI F hr hlocks hK hP hD hS (by rw [ef]) (by rw [ef]) (Nat.le_of_ble_eq_true rfl) (Nat.le_of_ble_eq_true rfl) dX7_here_76
        · first | exact absurd c_1 c_2 | exact absurd c_2 c_1
      · skip
        refine lv_aload_n hx hb dX7_here_11 rfl (lv_at hl 0 rfl) ?_
        refine va_get (D := G.1) (ci := 10) (v := .ref m6) (C := RX7) (T := TX7) (N := 21) hx hb hts in_X7 hown hK hP 0 rfl rfl 6 (by decide) (hts _ k_fl_X7_19) (fun _ h9 => h9) rfl dX7_here_12 ?_
        refine lv_aload_n hx hb dX7_here_15 rfl (lv_at hl 0 rfl) ?_
        refine va_get (D := G.1) (ci := 10) (v := .int y0_10) (C := RX7) (T := TX7) (N := 21) hx hb hts in_X7 hown hK hP 0 rfl rfl 10 (by decide) (hts _ k_fl_X7_106) (fun _ h9 => h9) rfl dX7_here_16 ?_
        refine va_iald hx hb hK hP 1 0 rfl rfl (by have qc_1 := c_1; (try rw [gI_le] at qc_1); (try rw [vp_in_iff]); omega) dX7_here_19 ?_
        refine lv_bipush (v := 32) hx hb dX7_here_20 (by decide) ?_
        refine lv_icmp_eq (tgt := 39) hx hb dX7_here_22 (by decide) (fun c_3 => ?_) (fun c_3 => ?_)
        · skip
          refine lv_aload_n hx hb dX7_here_39 rfl (lv_at hl 0 rfl) ?_
          refine lv_dup hx hb dX7_here_40 rfl ?_
          refine va_get (D := G.1) (ci := 10) (v := .int y0_10) (C := RX7) (T := TX7) (N := 21) hx hb hts in_X7 hown hK hP 0 rfl rfl 10 (by decide) (hts _ k_fl_X7_106) (fun _ h9 => h9) rfl dX7_here_41 ?_
          refine lv_iconst (v := 1) hx hb dX7_here_44 (by decide) ?_
          refine lv_iadd hx hb dX7_here_45 ?_
          refine va_put (D := G.1) (ci := 10) (v := .int (y0_10 + 1)) (ty := .int) (C := RX7) (T := TX7) (N := 21) hx hb hts in_X7 tyX7 tyX7_ok nmX7 hown hK hP hD hS 0 rfl rfl 10 (by decide) (hts _ k_fl_X7_106) (fun _ h9 => h9) rfl (by decide +kernel) rfl rfl (Nat.le_of_ble_eq_true rfl) dX7_here_46 (fun H locs hP hD hS => ?_)
          replace hP : va_P G.1 vwCl [(m0, .inr (10, [.int rz, .ref m1, .ref m2, .ref m3, .int hf, .int hs, .ref m6, .int len, .int ec, .int ep, .int (y0_10 + 1), .int bg, .int bad, .ref m13, .ref m14, .int plc, .int sta, .ref m17, .ref m18, .ref m19, .int shm])), (m6, .inl (G.2.1.1, 600, .inl text))] H := hP
          replace hD : va_D A [(m0, .inr (10, [.int rz, .ref m1, .ref m2, .ref m3, .int hf, .int hs, .ref m6, .int len, .int ec, .int ep, .int (y0_10 + 1), .int bg, .int bad, .ref m13, .ref m14, .int plc, .int sta, .ref m17, .ref m18, .ref m19, .int shm])), (m6, .inl (G.2.1.1, 600, .inl text))] := hD
          refine lv_goto (tgt := 0) hx hb dX7_here_49 (by decide) ?_
          exact ih (y0_10 + 1) (by have qc_1 := c_1; (try rw [gI_le] at qc_1); have z2 : (1 : Int32).toInt = 1 := (by decide); (try have z3 := gI_add (x := y0_10) (y := 1) (by omega) (by omega)); (try rw [vp_in_iff]); omega) (by have qc_1 := c_1; (try rw [gI_le] at qc_1); have z2 : (1 : Int32).toInt = 1 := (by decide); (try have z3 := gI_add (x := y0_10) (y := 1) (by omega) (by omega)); (try rw [vp_in_iff]); omega) (hO.trans (((if_neg c_1).trans (if_pos c_3)))) _ _ hP hD hS ls (lv_sub hl [0] rfl)
        · skip
          refine lv_aload_n hx hb dX7_here_25 rfl (lv_at hl 0 rfl) ?_
          refine va_get (D := G.1) (ci := 10) (v := .ref m6) (C := RX7) (T := TX7) (N := 21) hx hb hts in_X7 hown hK hP 0 rfl rfl 6 (by decide) (hts _ k_fl_X7_19) (fun _ h9 => h9) rfl dX7_here_26 ?_
          refine lv_aload_n hx hb dX7_here_29 rfl (lv_at hl 0 rfl) ?_
          refine va_get (D := G.1) (ci := 10) (v := .int y0_10) (C := RX7) (T := TX7) (N := 21) hx hb hts in_X7 hown hK hP 0 rfl rfl 10 (by decide) (hts _ k_fl_X7_106) (fun _ h9 => h9) rfl dX7_here_30 ?_
          refine va_iald hx hb hK hP 1 0 rfl rfl (by have qc_1 := c_1; (try rw [gI_le] at qc_1); (try rw [vp_in_iff]); omega) dX7_here_33 ?_
          refine lv_bipush (v := 10) hx hb dX7_here_34 (by decide) ?_
          refine lv_icmp_ne (tgt := 52) hx hb dX7_here_36 (by decide) (fun c_4 => ?_) (fun c_4 => ?_)
          · skip
            refine lv_aload_n hx hb dX7_here_52 rfl (lv_at hl 0 rfl) ?_
            refine va_get (D := G.1) (ci := 10) (v := .int y0_10) (C := RX7) (T := TX7) (N := 21) hx hb hts in_X7 hown hK hP 0 rfl rfl 10 (by decide) (hts _ k_fl_X7_106) (fun _ h9 => h9) rfl dX7_here_53 ?_
            refine lv_aload_n hx hb dX7_here_56 rfl (lv_at hl 0 rfl) ?_
            refine va_get (D := G.1) (ci := 10) (v := .int len) (C := RX7) (T := TX7) (N := 21) hx hb hts in_X7 hown hK hP 0 rfl rfl 7 (by decide) (hts _ k_fl_X7_95) (fun _ h9 => h9) rfl dX7_here_57 ?_
            refine lv_icmp_ge (tgt := 75) hx hb dX7_here_60 (by decide) (fun c_5 => ?_) (fun c_5 => ?_)
            · first | exact absurd c_1 c_5 | exact absurd c_5 c_1
            · skip
              refine lv_aload_n hx hb dX7_here_63 rfl (lv_at hl 0 rfl) ?_
              refine va_get (D := G.1) (ci := 10) (v := .ref m6) (C := RX7) (T := TX7) (N := 21) hx hb hts in_X7 hown hK hP 0 rfl rfl 6 (by decide) (hts _ k_fl_X7_19) (fun _ h9 => h9) rfl dX7_here_64 ?_
              refine lv_aload_n hx hb dX7_here_67 rfl (lv_at hl 0 rfl) ?_
              refine va_get (D := G.1) (ci := 10) (v := .int y0_10) (C := RX7) (T := TX7) (N := 21) hx hb hts in_X7 hown hK hP 0 rfl rfl 10 (by decide) (hts _ k_fl_X7_106) (fun _ h9 => h9) rfl dX7_here_68 ?_
              refine va_iald hx hb hK hP 1 0 rfl rfl (by have qc_1 := c_1; (try rw [gI_le] at qc_1); (try rw [vp_in_iff]); omega) dX7_here_71 ?_
              refine lv_goto (tgt := 76) hx hb dX7_here_72 (by decide) ?_
              have ef : (f_X7_here len pos text) = ((text (Int32.toNatClampNeg y0_10)), y0_10) := (hO.trans (((if_neg c_1).trans ((if_neg c_3).trans (if_neg c_4)))))
              exact gRetI F hr hlocks hK hP hD hS (by rw [ef]) (by rw [ef]) (Nat.le_of_ble_eq_true rfl) (Nat.le_of_ble_eq_true rfl) dX7_here_76
          · skip
            refine lv_aload_n hx hb dX7_here_39 rfl (lv_at hl 0 rfl) ?_
            refine lv_dup hx hb dX7_here_40 rfl ?_
            refine va_get (D := G.1) (ci := 10) (v := .int y0_10) (C := RX7) (T := TX7) (N := 21) hx hb hts in_X7 hown hK hP 0 rfl rfl 10 (by decide) (hts _ k_fl_X7_106) (fun _ h9 => h9) rfl dX7_here_41 ?_
            refine lv_iconst (v := 1) hx hb dX7_here_44 (by decide) ?_
            refine lv_iadd hx hb dX7_here_45 ?_
            refine va_put (D := G.1) (ci := 10) (v := .int (y0_10 + 1)) (ty := .int) (C := RX7) (T := TX7) (N := 21) hx hb hts in_X7 tyX7 tyX7_ok nmX7 hown hK hP hD hS 0 rfl rfl 10 (by decide) (hts _ k_fl_X7_106) (fun _ h9 => h9) rfl (by decide +kernel) rfl rfl (Nat.le_of_ble_eq_true rfl) dX7_here_46 (fun H locs hP hD hS => ?_)
            replace hP : va_P G.1 vwCl [(m0, .inr (10, [.int rz, .ref m1, .ref m2, .ref m3, .int hf, .int hs, .ref m6, .int len, .int ec, .int ep, .int (y0_10 + 1), .int bg, .int bad, .ref m13, .ref m14, .int plc, .int sta, .ref m17, .ref m18, .ref m19, .int shm])), (m6, .inl (G.2.1.1, 600, .inl text))] H := hP
            replace hD : va_D A [(m0, .inr (10, [.int rz, .ref m1, .ref m2, .ref m3, .int hf, .int hs, .ref m6, .int len, .int ec, .int ep, .int (y0_10 + 1), .int bg, .int bad, .ref m13, .ref m14, .int plc, .int sta, .ref m17, .ref m18, .ref m19, .int shm])), (m6, .inl (G.2.1.1, 600, .inl text))] := hD
            refine lv_goto (tgt := 0) hx hb dX7_here_49 (by decide) ?_
            exact ih (y0_10 + 1) (by have qc_1 := c_1; (try rw [gI_le] at qc_1); have z2 : (1 : Int32).toInt = 1 := (by decide); (try have z3 := gI_add (x := y0_10) (y := 1) (by omega) (by omega)); (try rw [vp_in_iff]); omega) (by have qc_1 := c_1; (try rw [gI_le] at qc_1); have z2 : (1 : Int32).toInt = 1 := (by decide); (try have z3 := gI_add (x := y0_10) (y := 1) (by omega) (by omega)); (try rw [vp_in_iff]); omega) (hO.trans (((if_neg c_1).trans ((if_neg c_3).trans (if_pos c_4))))) _ _ hP hD hS ls (lv_sub hl [0] rfl)
  exact loop_0 701 pos (by omega) (by omega) rfl _ _ hP hD hS ls (lv_sub hl [0] rfl)
theorem okV_X7_here : gOkV yX7_here cX7_here 1 (some .int) 0 := ⟨⟨k_im_X7_here, k_se_X7_here, k_in_X7, k_cd_X7_here⟩, by decide, by decide, by decide +kernel⟩
theorem here_it {len : Int32} {text : Nat → Int32} {p0 : Int32} (hlen : 0 ≤ len.toInt ∧ len.toInt ≤ 600) (hp0 : 0 ≤ p0.toInt) : ∀ (n : Nat) (y : Int32), p0.toInt ≤ y.toInt → (len.toInt - y.toInt).toNat < n → p0.toInt ≤ (wl_X7_here len p0 text n y).2.toInt ∧ y.toInt ≤ (wl_X7_here len p0 text n y).2.toInt ∧ ((wl_X7_here len p0 text n y).2.toInt ≤ len.toInt ∨ (wl_X7_here len p0 text n y).2 = y) ∧ (¬ (wl_X7_here len p0 text n y).1 = -1 → (wl_X7_here len p0 text n y).2.toInt < len.toInt) := by
  intro n
  induction n with
  | zero => intro y _ h; omega
  | succ n ih =>
    intro y hy h
    have e1 : (1 : Int32).toInt = 1 := by decide
    unfold wl_X7_here
    by_cases c1 : len ≤ y
    · rw [if_pos c1]
      exact ⟨hy, Int.le_refl _, Or.inr rfl, fun q => absurd rfl q⟩
    · have ea := gI_add (x := y) (y := 1) (by rw [gI_le] at c1; omega) (by rw [gI_le] at c1; omega)
      rw [if_neg c1]
      have c2 := c1
      rw [gI_le] at c2
      have go := ih (y + 1) (by omega) (by omega)
      have stop : ∀ z : Int32 × Int32, z.2 = y → p0.toInt ≤ z.2.toInt ∧ y.toInt ≤ z.2.toInt ∧ (z.2.toInt ≤ len.toInt ∨ z.2 = y) ∧ (¬ z.1 = -1 → z.2.toInt < len.toInt) := fun z hz => by rw [hz]; exact ⟨hy, Int.le_refl _, Or.inr rfl, fun _ => by omega⟩
      have step : p0.toInt ≤ (wl_X7_here len p0 text n (y + 1)).2.toInt ∧ y.toInt ≤ (wl_X7_here len p0 text n (y + 1)).2.toInt ∧ ((wl_X7_here len p0 text n (y + 1)).2.toInt ≤ len.toInt ∨ (wl_X7_here len p0 text n (y + 1)).2 = y) ∧ (¬ (wl_X7_here len p0 text n (y + 1)).1 = -1 → (wl_X7_here len p0 text n (y + 1)).2.toInt < len.toInt) := by
        obtain ⟨g1, g2, g3, g4⟩ := go
        refine ⟨g1, by omega, ?_, g4⟩
        rcases g3 with g3 | g3
        · exact Or.inl g3
        · rw [g3]; exact Or.inl (by omega)
      split
      · exact step
      · split
        · exact step
        · exact stop _ rfl
theorem here_rng {len : Int32} {text : Nat → Int32} {pos : Int32} (hlen : 0 ≤ len.toInt ∧ len.toInt ≤ 600) (hpos : 0 ≤ pos.toInt ∧ pos.toInt ≤ 700) : 0 ≤ (f_X7_here len pos text).2.toInt ∧ pos.toInt ≤ (f_X7_here len pos text).2.toInt ∧ ((f_X7_here len pos text).2.toInt ≤ len.toInt ∨ (f_X7_here len pos text).2 = pos) ∧ (f_X7_here len pos text).2.toInt ≤ 700 ∧ (¬ (f_X7_here len pos text).1 = -1 → (f_X7_here len pos text).2.toInt < len.toInt) := by
  obtain ⟨h1, h2, h3, h4⟩ := here_it (text := text) hlen hpos.1 701 pos (Int.le_refl _) (by omega)
  refine ⟨by unfold f_X7_here; omega, h2, h3, ?_, h4⟩
  unfold f_X7_here
  rcases h3 with h3 | h3
  · omega
  · rw [h3]; omega
def wl_X7_word (len : Int32) (pos : Int32) (text : Nat → Int32) : Nat → Int32 → Int64 → Int32 → Int64 × Int32 × Int32
  | 0, _, _, _ => (0, (f_X7_here len pos text).2, (f_X7_here len pos text).2)
  | n + 1, y0_10, x1, x3 =>
    if (f_X7_in (Int32.toInt64 ((f_X7_here len pos text).1)) 97 122) = 0 then
      (x1, y0_10, (f_X7_here len pos text).2)
    else
      if len ≤ y0_10 then
        (x1, y0_10, (f_X7_here len pos text).2)
      else
        if (f_X7_in (Int32.toInt64 (text (Int32.toNatClampNeg y0_10))) 97 122) = 0 then
          (x1, y0_10, (f_X7_here len pos text).2)
        else
          if 6 ≤ x3 then
            wl_X7_word len pos text n (y0_10 + 1) (-1) (x3 + 1)
          else
            wl_X7_word len pos text n (y0_10 + 1) (((27 * x1) + (Int32.toInt64 (text (Int32.toNatClampNeg y0_10)))) - 96) (x3 + 1)
def f_X7_word (len : Int32) (pos : Int32) (text : Nat → Int32) : Int64 × Int32 × Int32 :=
  (wl_X7_word len pos text 701 ((f_X7_here len pos text).2) 0 0)
set_option maxRecDepth 100000 in
set_option maxHeartbeats 4000000 in
theorem c_X7_word (l : Launch) (G : gG) (m0 : Nat) (m1 : Nat) (m2 : Nat) (m3 : Nat) (m6 : Nat) (m13 : Nat) (m14 : Nat) (m17 : Nat) (m18 : Nat) (m19 : Nat) (rz : Int32) (hf : Int32) (hs : Int32) (len : Int32) (ec : Int32) (ep : Int32) (pos : Int32) (bg : Int32) (bad : Int32) (plc : Int32) (sta : Int32) (shm : Int32) (text : Nat → Int32) (hlen : 0 ≤ len.toInt ∧ len.toInt ≤ 600) (hpos : 0 ≤ pos.toInt ∧ pos.toInt ≤ 700) : gM l G yX7_word cX7_word 5 (some .long) { frames := 1, cells := 0, slots := 0, locals := 25 } [.ref m0] [(m0, .inr (10, [.int rz, .ref m1, .ref m2, .ref m3, .int hf, .int hs, .ref m6, .int len, .int ec, .int ep, .int pos, .int bg, .int bad, .ref m13, .ref m14, .int plc, .int sta, .ref m17, .ref m18, .ref m19, .int shm])), (m6, .inl (G.2.1.1, 600, .inl text))] (some (.long ((f_X7_word len pos text).1))) [(m0, .inr (10, [.int rz, .ref m1, .ref m2, .ref m3, .int hf, .int hs, .ref m6, .int len, .int ec, .int ep, .int ((f_X7_word len pos text).2.1), .int ((f_X7_word len pos text).2.2), .int bad, .ref m13, .ref m14, .int plc, .int sta, .ref m17, .ref m18, .ref m19, .int shm])), (m6, .inl (G.2.1.1, 600, .inl text))] 0 0 := by
  refine gBegin (by decide +kernel) (Nat.le_of_ble_eq_true rfl) (fun p e s m args below meth c A F hr hlocks hname hN hK hP hD hA hS ls hl => ?_)
  obtain ⟨hx, hb, hml, hown, hts⟩ := id F
  replace hP : va_P G.1 vwCl [(m0, .inr (10, [.int rz, .ref m1, .ref m2, .ref m3, .int hf, .int hs, .ref m6, .int len, .int ec, .int ep, .int pos, .int bg, .int bad, .ref m13, .ref m14, .int plc, .int sta, .ref m17, .ref m18, .ref m19, .int shm])), (m6, .inl (G.2.1.1, 600, .inl text))] s.heap := hP
  replace hl : lv_has ls 5 [(0, .ref m0)] := hl
  refine lv_lconst (v := 0) hx hb dX7_word_0 (by decide) ?_
  refine lv_lstore_n (lv' := [(1, .long 0), (0, .ref m0)]) hx hb dX7_word_1 rfl hl (by decide) rfl (fun ls hl => ?_)
  refine lv_iconst (v := 0) hx hb dX7_word_2 (by decide) ?_
  refine lv_istore_n (lv' := [(3, .int 0), (1, .long 0), (0, .ref m0)]) hx hb dX7_word_3 rfl hl (by decide) rfl (fun ls hl => ?_)
  refine lv_aload_n hx hb dX7_word_4 rfl (lv_at hl 2 rfl) ?_
  refine gV (As := []) (rest := []) (wr := []) (ws' := [(m0, .inr (10, [.int rz, .ref m1, .ref m2, .ref m3, .int hf, .int hs, .ref m6, .int len, .int ec, .int ep, .int ((f_X7_here len pos text).2), .int bg, .int bad, .ref m13, .ref m14, .int plc, .int sta, .ref m17, .ref m18, .ref m19, .int shm])), (m6, .inl (G.2.1.1, 600, .inl text))]) F (c_X7_here l G m0 m1 m2 m3 m6 m13 m14 m17 m18 m19 rz hf hs len ec ep pos bg bad plc sta shm text (by omega) (by omega)) okV_X7_here k_ml_X7_116 rfl rfl ⟨Nat.le_of_ble_eq_true rfl, Nat.le_of_ble_eq_true rfl⟩ hN hK hP hD hS hA [0, 1] [] [0, 1] (by decide) rfl rfl (by decide) (by decide) (by decide) rfl (q0 := 0) rfl rfl rfl rfl hl.1 (Nat.le_of_ble_eq_true rfl) dX7_word_5 ⟨Nat.le_refl _, Nat.le_refl _⟩ (fun H locs hP hD hS => ?_)
  refine lv_i2l (v := (Int32.toInt64 ((f_X7_here len pos text).1))) hx hb dX7_word_8 rfl ?_
  refine lv_ldc2 (v := 97) hx hb hown (hts _ k_lc_X7_120) dX7_word_9 ?_
  refine lv_ldc2 (v := 122) hx hb hown (hts _ k_lc_X7_122) dX7_word_12 ?_
  refine gS (As := [.long (Int32.toInt64 ((f_X7_here len pos text).1)), .long 97, .long 122]) (rest := []) (wr := [(m0, .inr (10, [.int rz, .ref m1, .ref m2, .ref m3, .int hf, .int hs, .ref m6, .int len, .int ec, .int ep, .int ((f_X7_here len pos text).2), .int bg, .int bad, .ref m13, .ref m14, .int plc, .int sta, .ref m17, .ref m18, .ref m19, .int shm])), (m6, .inl (G.2.1.1, 600, .inl text))]) (ws' := [(m0, .inr (10, [.int rz, .ref m1, .ref m2, .ref m3, .int hf, .int hs, .ref m6, .int len, .int ec, .int ep, .int ((f_X7_here len pos text).2), .int bg, .int bad, .ref m13, .ref m14, .int plc, .int sta, .ref m17, .ref m18, .ref m19, .int shm])), (m6, .inl (G.2.1.1, 600, .inl text))]) F (c_X7_in l G (Int32.toInt64 ((f_X7_here len pos text).1)) 97 122) okS_X7_in k_ml_X7_81 rfl rfl ⟨Nat.le_of_ble_eq_true rfl, Nat.le_of_ble_eq_true rfl⟩ hN hK hP hD hS hA [] [0, 1] [0, 1] (by decide) rfl rfl (by decide) (by decide) (by decide) rfl rfl rfl hl.1 (Nat.le_of_ble_eq_true rfl) dX7_word_15 ⟨Nat.le_refl _, Nat.le_refl _⟩ (fun H locs hP hD hS => ?_)
  refine lv_istore (lv' := [(4, .int (f_X7_in (Int32.toInt64 ((f_X7_here len pos text).1)) 97 122)), (3, .int 0), (1, .long 0), (0, .ref m0)]) hx hb dX7_word_18 hl (by decide) rfl (fun ls hl => ?_)
  refine lv_aload_n hx hb dX7_word_20 rfl (lv_at hl 3 rfl) ?_
  refine lv_aload_n hx hb dX7_word_21 rfl (lv_at hl 3 rfl) ?_
  refine va_get (D := G.1) (ci := 10) (v := .int ((f_X7_here len pos text).2)) (C := RX7) (T := TX7) (N := 21) hx hb hts in_X7 hown hK hP 0 rfl rfl 10 (by decide) (hts _ k_fl_X7_106) (fun _ h9 => h9) rfl dX7_word_22 ?_
  refine va_put (D := G.1) (ci := 10) (v := .int ((f_X7_here len pos text).2)) (ty := .int) (C := RX7) (T := TX7) (N := 21) hx hb hts in_X7 tyX7 tyX7_ok nmX7 hown hK hP hD hS 0 rfl rfl 11 (by decide) (hts _ k_fl_X7_124) (fun _ h9 => h9) rfl (by decide +kernel) rfl rfl (Nat.le_of_ble_eq_true rfl) dX7_word_25 (fun H locs hP hD hS => ?_)
  replace hP : va_P G.1 vwCl [(m0, .inr (10, [.int rz, .ref m1, .ref m2, .ref m3, .int hf, .int hs, .ref m6, .int len, .int ec, .int ep, .int ((f_X7_here len pos text).2), .int ((f_X7_here len pos text).2), .int bad, .ref m13, .ref m14, .int plc, .int sta, .ref m17, .ref m18, .ref m19, .int shm])), (m6, .inl (G.2.1.1, 600, .inl text))] H := hP
  replace hD : va_D A [(m0, .inr (10, [.int rz, .ref m1, .ref m2, .ref m3, .int hf, .int hs, .ref m6, .int len, .int ec, .int ep, .int ((f_X7_here len pos text).2), .int ((f_X7_here len pos text).2), .int bad, .ref m13, .ref m14, .int plc, .int sta, .ref m17, .ref m18, .ref m19, .int shm])), (m6, .inl (G.2.1.1, 600, .inl text))] := hD
  have loop_28 : ∀ (fu : Nat) (y0_10 : Int32) (x1 : Int64) (x3 : Int32), (0 ≤ y0_10.toInt) → (len.toInt - y0_10.toInt).toNat < fu → (f_X7_word len pos text) = wl_X7_word len pos text fu y0_10 x1 x3 → ∀ (H : Heap) (locs : List Loc), va_P G.1 vwCl [(m0, .inr (10, [.int rz, .ref m1, .ref m2, .ref m3, .int hf, .int hs, .ref m6, .int len, .int ec, .int ep, .int y0_10, .int ((f_X7_here len pos text).2), .int bad, .ref m13, .ref m14, .int plc, .int sta, .ref m17, .ref m18, .ref m19, .int shm])), (m6, .inl (G.2.1.1, 600, .inl text))] H → va_D A [(m0, .inr (10, [.int rz, .ref m1, .ref m2, .ref m3, .int hf, .int hs, .ref m6, .int len, .int ec, .int ep, .int y0_10, .int ((f_X7_here len pos text).2), .int bad, .ref m13, .ref m14, .int plc, .int sta, .ref m17, .ref m18, .ref m19, .int shm])), (m6, .inl (G.2.1.1, 600, .inl text))] → va_S A s.heap H locs → ∀ ls : Array Slot, lv_has ls 5 [(4, .int (f_X7_in (Int32.toInt64 ((f_X7_here len pos text).1)) 97 122)), (3, .int x3), (1, .long x1), (0, .ref m0)] → W p l e { frames := 1, cells := 0, slots := 0, locals := 25 } s m args below meth c H locs 0 0 (MQ below (gQ G (some (.long ((f_X7_word len pos text).1))) [(m0, .inr (10, [.int rz, .ref m1, .ref m2, .ref m3, .int hf, .int hs, .ref m6, .int len, .int ec, .int ep, .int ((f_X7_word len pos text).2.1), .int ((f_X7_word len pos text).2.2), .int bad, .ref m13, .ref m14, .int plc, .int sta, .ref m17, .ref m18, .ref m19, .int shm])), (m6, .inl (G.2.1.1, 600, .inl text))] A) args s 0 0 A) (F0 m 28 ls []) := by
    intro fu
    induction fu with
    | zero =>
      intro y0_10 x1 x3 hI hn
      exact absurd hn (Nat.not_lt_zero _)
    | succ fu ih =>
      intro y0_10 x1 x3 hI hn hO H locs hP hD hS ls hl
      refine lv_iload hx hb dX7_word_28 (lv_at hl 0 rfl) ?_
      refine lv_if_eq (tgt := 115) hx hb dX7_word_30 (by decide) (fun c_1 => ?_) (fun c_1 => ?_)
      · skip
        refine lv_lload_n hx hb dX7_word_115 rfl (lv_at hl 2 rfl) ?_
        have ef : (f_X7_word len pos text) = (x1, y0_10, (f_X7_here len pos text).2) := (hO.trans (if_pos c_1))
        exact gRetL F hr hlocks hK hP hD hS (by rw [ef]) (by rw [ef]) (Nat.le_of_ble_eq_true rfl) (Nat.le_of_ble_eq_true rfl) dX7_word_116
      · skip
        refine lv_aload_n hx hb dX7_word_33 rfl (lv_at hl 3 rfl) ?_
        refine va_get (D := G.1) (ci := 10) (v := .int y0_10) (C := RX7) (T := TX7) (N := 21) hx hb hts in_X7 hown hK hP 0 rfl rfl 10 (by decide) (hts _ k_fl_X7_106) (fun _ h9 => h9) rfl dX7_word_34 ?_
        refine lv_aload_n hx hb dX7_word_37 rfl (lv_at hl 3 rfl) ?_
        refine va_get (D := G.1) (ci := 10) (v := .int len) (C := RX7) (T := TX7) (N := 21) hx hb hts in_X7 hown hK hP 0 rfl rfl 7 (by decide) (hts _ k_fl_X7_95) (fun _ h9 => h9) rfl dX7_word_38 ?_
        refine lv_icmp_ge (tgt := 115) hx hb dX7_word_41 (by decide) (fun c_2 => ?_) (fun c_2 => ?_)
        · skip
          refine lv_lload_n hx hb dX7_word_115 rfl (lv_at hl 2 rfl) ?_
          have ef : (f_X7_word len pos text) = (x1, y0_10, (f_X7_here len pos text).2) := (hO.trans (((if_neg c_1).trans (if_pos c_2))))
          exact gRetL F hr hlocks hK hP hD hS (by rw [ef]) (by rw [ef]) (Nat.le_of_ble_eq_true rfl) (Nat.le_of_ble_eq_true rfl) dX7_word_116
        · skip
          refine lv_aload_n hx hb dX7_word_44 rfl (lv_at hl 3 rfl) ?_
          refine va_get (D := G.1) (ci := 10) (v := .ref m6) (C := RX7) (T := TX7) (N := 21) hx hb hts in_X7 hown hK hP 0 rfl rfl 6 (by decide) (hts _ k_fl_X7_19) (fun _ h9 => h9) rfl dX7_word_45 ?_
          refine lv_aload_n hx hb dX7_word_48 rfl (lv_at hl 3 rfl) ?_
          refine va_get (D := G.1) (ci := 10) (v := .int y0_10) (C := RX7) (T := TX7) (N := 21) hx hb hts in_X7 hown hK hP 0 rfl rfl 10 (by decide) (hts _ k_fl_X7_106) (fun _ h9 => h9) rfl dX7_word_49 ?_
          refine va_iald hx hb hK hP 1 0 rfl rfl (by have qc_1 := in_ofI (a := 97) (b := 122) c_1 (by decide) (by decide); have qc_2 := c_2; (try rw [gI_le] at qc_2); (try rw [vp_in_iff]); omega) dX7_word_52 ?_
          refine lv_i2l (v := (Int32.toInt64 (text (Int32.toNatClampNeg y0_10)))) hx hb dX7_word_53 rfl ?_
          refine lv_ldc2 (v := 97) hx hb hown (hts _ k_lc_X7_120) dX7_word_54 ?_
          refine lv_ldc2 (v := 122) hx hb hown (hts _ k_lc_X7_122) dX7_word_57 ?_
          refine gS (As := [.long (Int32.toInt64 (text (Int32.toNatClampNeg y0_10))), .long 97, .long 122]) (rest := []) (wr := [(m0, .inr (10, [.int rz, .ref m1, .ref m2, .ref m3, .int hf, .int hs, .ref m6, .int len, .int ec, .int ep, .int y0_10, .int ((f_X7_here len pos text).2), .int bad, .ref m13, .ref m14, .int plc, .int sta, .ref m17, .ref m18, .ref m19, .int shm])), (m6, .inl (G.2.1.1, 600, .inl text))]) (ws' := [(m0, .inr (10, [.int rz, .ref m1, .ref m2, .ref m3, .int hf, .int hs, .ref m6, .int len, .int ec, .int ep, .int y0_10, .int ((f_X7_here len pos text).2), .int bad, .ref m13, .ref m14, .int plc, .int sta, .ref m17, .ref m18, .ref m19, .int shm])), (m6, .inl (G.2.1.1, 600, .inl text))]) F (c_X7_in l G (Int32.toInt64 (text (Int32.toNatClampNeg y0_10))) 97 122) okS_X7_in k_ml_X7_81 rfl rfl ⟨Nat.le_of_ble_eq_true rfl, Nat.le_of_ble_eq_true rfl⟩ hN hK hP hD hS hA [] [0, 1] [0, 1] (by decide) rfl rfl (by decide) (by decide) (by decide) rfl rfl rfl hl.1 (Nat.le_of_ble_eq_true rfl) dX7_word_60 ⟨Nat.le_refl _, Nat.le_refl _⟩ (fun H locs hP hD hS => ?_)
          refine lv_if_eq (tgt := 115) hx hb dX7_word_63 (by decide) (fun c_3 => ?_) (fun c_3 => ?_)
          · skip
            refine lv_lload_n hx hb dX7_word_115 rfl (lv_at hl 2 rfl) ?_
            have ef : (f_X7_word len pos text) = (x1, y0_10, (f_X7_here len pos text).2) := (hO.trans (((if_neg c_1).trans ((if_neg c_2).trans (if_pos c_3)))))
            exact gRetL F hr hlocks hK hP hD hS (by rw [ef]) (by rw [ef]) (Nat.le_of_ble_eq_true rfl) (Nat.le_of_ble_eq_true rfl) dX7_word_116
          · skip
            refine lv_iload_n hx hb dX7_word_66 rfl (lv_at hl 1 rfl) ?_
            refine lv_bipush (v := 6) hx hb dX7_word_67 (by decide) ?_
            refine lv_icmp_ge (tgt := 95) hx hb dX7_word_69 (by decide) (fun c_4 => ?_) (fun c_4 => ?_)
            · skip
              refine lv_ldc2 (v := (-1)) hx hb hown (hts _ k_lc_X7_131) dX7_word_95 ?_
              refine lv_lstore_n (lv' := [(1, .long (-1)), (4, .int (f_X7_in (Int32.toInt64 ((f_X7_here len pos text).1)) 97 122)), (3, .int x3), (0, .ref m0)]) hx hb dX7_word_98 rfl hl (by decide) rfl (fun ls hl => ?_)
              refine lv_iinc (v := (x3 + 1)) (lv' := [(3, .int (x3 + 1)), (1, .long (-1)), (4, .int (f_X7_in (Int32.toInt64 ((f_X7_here len pos text).1)) 97 122)), (0, .ref m0)]) hx hb dX7_word_99 hl (k := 2) rfl rfl (by decide) rfl (fun ls hl => ?_)
              refine lv_aload_n hx hb dX7_word_102 rfl (lv_at hl 3 rfl) ?_
              refine lv_dup hx hb dX7_word_103 rfl ?_
              refine va_get (D := G.1) (ci := 10) (v := .int y0_10) (C := RX7) (T := TX7) (N := 21) hx hb hts in_X7 hown hK hP 0 rfl rfl 10 (by decide) (hts _ k_fl_X7_106) (fun _ h9 => h9) rfl dX7_word_104 ?_
              refine lv_iconst (v := 1) hx hb dX7_word_107 (by decide) ?_
              refine lv_iadd hx hb dX7_word_108 ?_
              refine va_put (D := G.1) (ci := 10) (v := .int (y0_10 + 1)) (ty := .int) (C := RX7) (T := TX7) (N := 21) hx hb hts in_X7 tyX7 tyX7_ok nmX7 hown hK hP hD hS 0 rfl rfl 10 (by decide) (hts _ k_fl_X7_106) (fun _ h9 => h9) rfl (by decide +kernel) rfl rfl (Nat.le_of_ble_eq_true rfl) dX7_word_109 (fun H locs hP hD hS => ?_)
              replace hP : va_P G.1 vwCl [(m0, .inr (10, [.int rz, .ref m1, .ref m2, .ref m3, .int hf, .int hs, .ref m6, .int len, .int ec, .int ep, .int (y0_10 + 1), .int ((f_X7_here len pos text).2), .int bad, .ref m13, .ref m14, .int plc, .int sta, .ref m17, .ref m18, .ref m19, .int shm])), (m6, .inl (G.2.1.1, 600, .inl text))] H := hP
              replace hD : va_D A [(m0, .inr (10, [.int rz, .ref m1, .ref m2, .ref m3, .int hf, .int hs, .ref m6, .int len, .int ec, .int ep, .int (y0_10 + 1), .int ((f_X7_here len pos text).2), .int bad, .ref m13, .ref m14, .int plc, .int sta, .ref m17, .ref m18, .ref m19, .int shm])), (m6, .inl (G.2.1.1, 600, .inl text))] := hD
              refine lv_goto (tgt := 28) hx hb dX7_word_112 (by decide) ?_
              exact ih (y0_10 + 1) (-1) (x3 + 1) (nxt_pos c_2 hI) (tok_mu c_2 hn) (hO.trans (((if_neg c_1).trans ((if_neg c_2).trans ((if_neg c_3).trans (if_pos c_4)))))) _ _ hP hD hS ls (lv_sub hl [2, 0, 1, 3] rfl)
            · skip
              refine lv_ldc2 (v := 27) hx hb hown (hts _ k_lc_X7_127) dX7_word_72 ?_
              refine lv_lload_n hx hb dX7_word_75 rfl (lv_at hl 2 rfl) ?_
              refine lv_lmul hx hb dX7_word_76 ?_
              refine lv_aload_n hx hb dX7_word_77 rfl (lv_at hl 3 rfl) ?_
              refine va_get (D := G.1) (ci := 10) (v := .ref m6) (C := RX7) (T := TX7) (N := 21) hx hb hts in_X7 hown hK hP 0 rfl rfl 6 (by decide) (hts _ k_fl_X7_19) (fun _ h9 => h9) rfl dX7_word_78 ?_
              refine lv_aload_n hx hb dX7_word_81 rfl (lv_at hl 3 rfl) ?_
              refine va_get (D := G.1) (ci := 10) (v := .int y0_10) (C := RX7) (T := TX7) (N := 21) hx hb hts in_X7 hown hK hP 0 rfl rfl 10 (by decide) (hts _ k_fl_X7_106) (fun _ h9 => h9) rfl dX7_word_82 ?_
              refine va_iald hx hb hK hP 1 0 rfl rfl (by have qc_1 := in_ofI (a := 97) (b := 122) c_1 (by decide) (by decide); have qc_2 := c_2; (try rw [gI_le] at qc_2); have qc_3 := in_ofI (a := 97) (b := 122) c_3 (by decide) (by decide); have z2 : (6 : Int32).toInt = 6 := (by decide); have qc_4 := c_4; (try rw [gI_le] at qc_4); (try rw [vp_in_iff]); omega) dX7_word_85 ?_
              refine lv_i2l (v := (Int32.toInt64 (text (Int32.toNatClampNeg y0_10)))) hx hb dX7_word_86 rfl ?_
              refine lv_ladd hx hb dX7_word_87 ?_
              refine lv_ldc2 (v := 96) hx hb hown (hts _ k_lc_X7_129) dX7_word_88 ?_
              refine lv_lsub hx hb dX7_word_91 ?_
              refine lv_goto (tgt := 98) hx hb dX7_word_92 (by decide) ?_
              refine lv_lstore_n (lv' := [(1, .long (((27 * x1) + (Int32.toInt64 (text (Int32.toNatClampNeg y0_10)))) - 96)), (4, .int (f_X7_in (Int32.toInt64 ((f_X7_here len pos text).1)) 97 122)), (3, .int x3), (0, .ref m0)]) hx hb dX7_word_98 rfl hl (by decide) rfl (fun ls hl => ?_)
              refine lv_iinc (v := (x3 + 1)) (lv' := [(3, .int (x3 + 1)), (1, .long (((27 * x1) + (Int32.toInt64 (text (Int32.toNatClampNeg y0_10)))) - 96)), (4, .int (f_X7_in (Int32.toInt64 ((f_X7_here len pos text).1)) 97 122)), (0, .ref m0)]) hx hb dX7_word_99 hl (k := 2) rfl rfl (by decide) rfl (fun ls hl => ?_)
              refine lv_aload_n hx hb dX7_word_102 rfl (lv_at hl 3 rfl) ?_
              refine lv_dup hx hb dX7_word_103 rfl ?_
              refine va_get (D := G.1) (ci := 10) (v := .int y0_10) (C := RX7) (T := TX7) (N := 21) hx hb hts in_X7 hown hK hP 0 rfl rfl 10 (by decide) (hts _ k_fl_X7_106) (fun _ h9 => h9) rfl dX7_word_104 ?_
              refine lv_iconst (v := 1) hx hb dX7_word_107 (by decide) ?_
              refine lv_iadd hx hb dX7_word_108 ?_
              refine va_put (D := G.1) (ci := 10) (v := .int (y0_10 + 1)) (ty := .int) (C := RX7) (T := TX7) (N := 21) hx hb hts in_X7 tyX7 tyX7_ok nmX7 hown hK hP hD hS 0 rfl rfl 10 (by decide) (hts _ k_fl_X7_106) (fun _ h9 => h9) rfl (by decide +kernel) rfl rfl (Nat.le_of_ble_eq_true rfl) dX7_word_109 (fun H locs hP hD hS => ?_)
              replace hP : va_P G.1 vwCl [(m0, .inr (10, [.int rz, .ref m1, .ref m2, .ref m3, .int hf, .int hs, .ref m6, .int len, .int ec, .int ep, .int (y0_10 + 1), .int ((f_X7_here len pos text).2), .int bad, .ref m13, .ref m14, .int plc, .int sta, .ref m17, .ref m18, .ref m19, .int shm])), (m6, .inl (G.2.1.1, 600, .inl text))] H := hP
              replace hD : va_D A [(m0, .inr (10, [.int rz, .ref m1, .ref m2, .ref m3, .int hf, .int hs, .ref m6, .int len, .int ec, .int ep, .int (y0_10 + 1), .int ((f_X7_here len pos text).2), .int bad, .ref m13, .ref m14, .int plc, .int sta, .ref m17, .ref m18, .ref m19, .int shm])), (m6, .inl (G.2.1.1, 600, .inl text))] := hD
              refine lv_goto (tgt := 28) hx hb dX7_word_112 (by decide) ?_
              exact ih (y0_10 + 1) (((27 * x1) + (Int32.toInt64 (text (Int32.toNatClampNeg y0_10)))) - 96) (x3 + 1) (nxt_pos c_2 hI) (tok_mu c_2 hn) (hO.trans (((if_neg c_1).trans ((if_neg c_2).trans ((if_neg c_3).trans (if_neg c_4)))))) _ _ hP hD hS ls (lv_sub hl [2, 0, 1, 3] rfl)
  exact loop_28 701 ((f_X7_here len pos text).2) 0 0 (by have q := here_rng (text := text) hlen hpos; exact q.1) (by have q := here_rng (text := text) hlen hpos; omega) rfl _ _ hP hD hS ls (lv_sub hl [0, 1, 2, 3] rfl)
theorem okV_X7_word : gOkV yX7_word cX7_word 5 (some .long) 0 := ⟨⟨k_im_X7_word, k_se_X7_word, k_in_X7, k_cd_X7_word⟩, by decide, by decide, by decide +kernel⟩
def wl_X7_number (len : Int32) (ec : Int32) (ep : Int32) (pos : Int32) (bad : Int32) (text : Nat → Int32) (p0 : Int32) (p1 : Int32) (p2 : Int32) : Nat → Int32 → Int32 → Int32 × Int32 × Int32 × Int32 × Int32
  | 0, _, _ => (0, ec, ep, (f_X7_here len pos text).2, bad)
  | n + 1, y0_10, x6 =>
    if (f_X7_in (Int32.toInt64 ((f_X7_here len pos text).1)) 48 57) = 0 then
      if p2 = 0 then
        if (f_X7_wrong ec ep bad 1 ((f_X7_here len pos text).2)).2.2 = 0 then
          (x6, (f_X7_wrong ec ep bad 1 ((f_X7_here len pos text).2)).1, (f_X7_wrong ec ep bad 1 ((f_X7_here len pos text).2)).2.1, y0_10, (f_X7_wrong ec ep bad 1 ((f_X7_here len pos text).2)).2.2)
        else
          (0, (f_X7_wrong ec ep bad 1 ((f_X7_here len pos text).2)).1, (f_X7_wrong ec ep bad 1 ((f_X7_here len pos text).2)).2.1, y0_10, (f_X7_wrong ec ep bad 1 ((f_X7_here len pos text).2)).2.2)
      else
        if (f_X7_wrong ec ep bad 1 ((f_X7_here len pos text).2)).2.2 = 0 then
          ((-x6), (f_X7_wrong ec ep bad 1 ((f_X7_here len pos text).2)).1, (f_X7_wrong ec ep bad 1 ((f_X7_here len pos text).2)).2.1, y0_10, (f_X7_wrong ec ep bad 1 ((f_X7_here len pos text).2)).2.2)
        else
          (0, (f_X7_wrong ec ep bad 1 ((f_X7_here len pos text).2)).1, (f_X7_wrong ec ep bad 1 ((f_X7_here len pos text).2)).2.1, y0_10, (f_X7_wrong ec ep bad 1 ((f_X7_here len pos text).2)).2.2)
    else
      if len ≤ y0_10 then
        if p2 = 0 then
          if (y0_10 - (f_X7_here len pos text).2) ≤ 6 then
            if (f_X7_in (Int32.toInt64 x6) (Int32.toInt64 p0) (Int32.toInt64 p1)) = 0 then
              if (f_X7_wrong ec ep bad 2 ((f_X7_here len pos text).2)).2.2 = 0 then
                (x6, (f_X7_wrong ec ep bad 2 ((f_X7_here len pos text).2)).1, (f_X7_wrong ec ep bad 2 ((f_X7_here len pos text).2)).2.1, y0_10, (f_X7_wrong ec ep bad 2 ((f_X7_here len pos text).2)).2.2)
              else
                (0, (f_X7_wrong ec ep bad 2 ((f_X7_here len pos text).2)).1, (f_X7_wrong ec ep bad 2 ((f_X7_here len pos text).2)).2.1, y0_10, (f_X7_wrong ec ep bad 2 ((f_X7_here len pos text).2)).2.2)
            else
              (x6, ec, ep, y0_10, bad)
          else
            if (f_X7_wrong ec ep bad 1 ((f_X7_here len pos text).2)).2.2 = 0 then
              (x6, (f_X7_wrong ec ep bad 1 ((f_X7_here len pos text).2)).1, (f_X7_wrong ec ep bad 1 ((f_X7_here len pos text).2)).2.1, y0_10, (f_X7_wrong ec ep bad 1 ((f_X7_here len pos text).2)).2.2)
            else
              (0, (f_X7_wrong ec ep bad 1 ((f_X7_here len pos text).2)).1, (f_X7_wrong ec ep bad 1 ((f_X7_here len pos text).2)).2.1, y0_10, (f_X7_wrong ec ep bad 1 ((f_X7_here len pos text).2)).2.2)
        else
          if (y0_10 - (f_X7_here len pos text).2) ≤ 6 then
            if (f_X7_in (Int32.toInt64 (-x6)) (Int32.toInt64 p0) (Int32.toInt64 p1)) = 0 then
              if (f_X7_wrong ec ep bad 2 ((f_X7_here len pos text).2)).2.2 = 0 then
                ((-x6), (f_X7_wrong ec ep bad 2 ((f_X7_here len pos text).2)).1, (f_X7_wrong ec ep bad 2 ((f_X7_here len pos text).2)).2.1, y0_10, (f_X7_wrong ec ep bad 2 ((f_X7_here len pos text).2)).2.2)
              else
                (0, (f_X7_wrong ec ep bad 2 ((f_X7_here len pos text).2)).1, (f_X7_wrong ec ep bad 2 ((f_X7_here len pos text).2)).2.1, y0_10, (f_X7_wrong ec ep bad 2 ((f_X7_here len pos text).2)).2.2)
            else
              ((-x6), ec, ep, y0_10, bad)
          else
            if (f_X7_wrong ec ep bad 1 ((f_X7_here len pos text).2)).2.2 = 0 then
              ((-x6), (f_X7_wrong ec ep bad 1 ((f_X7_here len pos text).2)).1, (f_X7_wrong ec ep bad 1 ((f_X7_here len pos text).2)).2.1, y0_10, (f_X7_wrong ec ep bad 1 ((f_X7_here len pos text).2)).2.2)
            else
              (0, (f_X7_wrong ec ep bad 1 ((f_X7_here len pos text).2)).1, (f_X7_wrong ec ep bad 1 ((f_X7_here len pos text).2)).2.1, y0_10, (f_X7_wrong ec ep bad 1 ((f_X7_here len pos text).2)).2.2)
      else
        if (f_X7_in (Int32.toInt64 (text (Int32.toNatClampNeg y0_10))) 48 57) = 0 then
          if p2 = 0 then
            if (y0_10 - (f_X7_here len pos text).2) ≤ 6 then
              if (f_X7_in (Int32.toInt64 x6) (Int32.toInt64 p0) (Int32.toInt64 p1)) = 0 then
                if (f_X7_wrong ec ep bad 2 ((f_X7_here len pos text).2)).2.2 = 0 then
                  (x6, (f_X7_wrong ec ep bad 2 ((f_X7_here len pos text).2)).1, (f_X7_wrong ec ep bad 2 ((f_X7_here len pos text).2)).2.1, y0_10, (f_X7_wrong ec ep bad 2 ((f_X7_here len pos text).2)).2.2)
                else
                  (0, (f_X7_wrong ec ep bad 2 ((f_X7_here len pos text).2)).1, (f_X7_wrong ec ep bad 2 ((f_X7_here len pos text).2)).2.1, y0_10, (f_X7_wrong ec ep bad 2 ((f_X7_here len pos text).2)).2.2)
              else
                (x6, ec, ep, y0_10, bad)
            else
              if (f_X7_wrong ec ep bad 1 ((f_X7_here len pos text).2)).2.2 = 0 then
                (x6, (f_X7_wrong ec ep bad 1 ((f_X7_here len pos text).2)).1, (f_X7_wrong ec ep bad 1 ((f_X7_here len pos text).2)).2.1, y0_10, (f_X7_wrong ec ep bad 1 ((f_X7_here len pos text).2)).2.2)
              else
                (0, (f_X7_wrong ec ep bad 1 ((f_X7_here len pos text).2)).1, (f_X7_wrong ec ep bad 1 ((f_X7_here len pos text).2)).2.1, y0_10, (f_X7_wrong ec ep bad 1 ((f_X7_here len pos text).2)).2.2)
          else
            if (y0_10 - (f_X7_here len pos text).2) ≤ 6 then
              if (f_X7_in (Int32.toInt64 (-x6)) (Int32.toInt64 p0) (Int32.toInt64 p1)) = 0 then
                if (f_X7_wrong ec ep bad 2 ((f_X7_here len pos text).2)).2.2 = 0 then
                  ((-x6), (f_X7_wrong ec ep bad 2 ((f_X7_here len pos text).2)).1, (f_X7_wrong ec ep bad 2 ((f_X7_here len pos text).2)).2.1, y0_10, (f_X7_wrong ec ep bad 2 ((f_X7_here len pos text).2)).2.2)
                else
                  (0, (f_X7_wrong ec ep bad 2 ((f_X7_here len pos text).2)).1, (f_X7_wrong ec ep bad 2 ((f_X7_here len pos text).2)).2.1, y0_10, (f_X7_wrong ec ep bad 2 ((f_X7_here len pos text).2)).2.2)
              else
                ((-x6), ec, ep, y0_10, bad)
            else
              if (f_X7_wrong ec ep bad 1 ((f_X7_here len pos text).2)).2.2 = 0 then
                ((-x6), (f_X7_wrong ec ep bad 1 ((f_X7_here len pos text).2)).1, (f_X7_wrong ec ep bad 1 ((f_X7_here len pos text).2)).2.1, y0_10, (f_X7_wrong ec ep bad 1 ((f_X7_here len pos text).2)).2.2)
              else
                (0, (f_X7_wrong ec ep bad 1 ((f_X7_here len pos text).2)).1, (f_X7_wrong ec ep bad 1 ((f_X7_here len pos text).2)).2.1, y0_10, (f_X7_wrong ec ep bad 1 ((f_X7_here len pos text).2)).2.2)
        else
          if 6 ≤ (y0_10 - (f_X7_here len pos text).2) then
            wl_X7_number len ec ep pos bad text p0 p1 p2 n (y0_10 + 1) x6
          else
            wl_X7_number len ec ep pos bad text p0 p1 p2 n (y0_10 + 1) (((10 * x6) + (text (Int32.toNatClampNeg y0_10))) - 48)
def f_X7_number (len : Int32) (ec : Int32) (ep : Int32) (pos : Int32) (bad : Int32) (text : Nat → Int32) (p0 : Int32) (p1 : Int32) (p2 : Int32) : Int32 × Int32 × Int32 × Int32 × Int32 :=
  if bad = 0 then
    (wl_X7_number len ec ep pos bad text p0 p1 p2 701 ((f_X7_here len pos text).2) 0)
  else
    (0, ec, ep, pos, bad)
set_option maxRecDepth 100000 in
set_option maxHeartbeats 4000000 in
theorem c_X7_number (l : Launch) (G : gG) (m0 : Nat) (m1 : Nat) (m2 : Nat) (m3 : Nat) (m6 : Nat) (m13 : Nat) (m14 : Nat) (m17 : Nat) (m18 : Nat) (m19 : Nat) (rz : Int32) (hf : Int32) (hs : Int32) (len : Int32) (ec : Int32) (ep : Int32) (pos : Int32) (bg : Int32) (bad : Int32) (plc : Int32) (sta : Int32) (shm : Int32) (text : Nat → Int32) (p0 : Int32) (p1 : Int32) (p2 : Int32) (hlen : 0 ≤ len.toInt ∧ len.toInt ≤ 600) (hpos : 0 ≤ pos.toInt ∧ pos.toInt ≤ 700) : gM l G yX7_number cX7_number 7 (some .int) { frames := 1, cells := 0, slots := 0, locals := 25 } [.ref m0, .int p0, .int p1, .int p2] [(m0, .inr (10, [.int rz, .ref m1, .ref m2, .ref m3, .int hf, .int hs, .ref m6, .int len, .int ec, .int ep, .int pos, .int bg, .int bad, .ref m13, .ref m14, .int plc, .int sta, .ref m17, .ref m18, .ref m19, .int shm])), (m6, .inl (G.2.1.1, 600, .inl text))] (some (.int ((f_X7_number len ec ep pos bad text p0 p1 p2).1))) [(m0, .inr (10, [.int rz, .ref m1, .ref m2, .ref m3, .int hf, .int hs, .ref m6, .int len, .int ((f_X7_number len ec ep pos bad text p0 p1 p2).2.1), .int ((f_X7_number len ec ep pos bad text p0 p1 p2).2.2.1), .int ((f_X7_number len ec ep pos bad text p0 p1 p2).2.2.2.1), .int bg, .int ((f_X7_number len ec ep pos bad text p0 p1 p2).2.2.2.2), .ref m13, .ref m14, .int plc, .int sta, .ref m17, .ref m18, .ref m19, .int shm])), (m6, .inl (G.2.1.1, 600, .inl text))] 0 0 := by
  refine gBegin (by decide +kernel) (Nat.le_of_ble_eq_true rfl) (fun p e s m args below meth c A F hr hlocks hname hN hK hP hD hA hS ls hl => ?_)
  obtain ⟨hx, hb, hml, hown, hts⟩ := id F
  replace hP : va_P G.1 vwCl [(m0, .inr (10, [.int rz, .ref m1, .ref m2, .ref m3, .int hf, .int hs, .ref m6, .int len, .int ec, .int ep, .int pos, .int bg, .int bad, .ref m13, .ref m14, .int plc, .int sta, .ref m17, .ref m18, .ref m19, .int shm])), (m6, .inl (G.2.1.1, 600, .inl text))] s.heap := hP
  replace hl : lv_has ls 7 [(0, .ref m0), (1, .int p0), (2, .int p1), (3, .int p2)] := hl
  refine lv_aload_n hx hb dX7_number_0 rfl (lv_at hl 0 rfl) ?_
  refine va_get (D := G.1) (ci := 10) (v := .int bad) (C := RX7) (T := TX7) (N := 21) hx hb hts in_X7 hown hK hP 0 rfl rfl 12 (by decide) (hts _ k_fl_X7_109) (fun _ h9 => h9) rfl dX7_number_1 ?_
  refine lv_if_eq (tgt := 9) hx hb dX7_number_4 (by decide) (fun c_1 => ?_) (fun c_1 => ?_)
  · skip
    refine lv_aload_n hx hb dX7_number_9 rfl (lv_at hl 0 rfl) ?_
    refine gV (As := []) (rest := []) (wr := []) (ws' := [(m0, .inr (10, [.int rz, .ref m1, .ref m2, .ref m3, .int hf, .int hs, .ref m6, .int len, .int ec, .int ep, .int ((f_X7_here len pos text).2), .int bg, .int bad, .ref m13, .ref m14, .int plc, .int sta, .ref m17, .ref m18, .ref m19, .int shm])), (m6, .inl (G.2.1.1, 600, .inl text))]) F (c_X7_here l G m0 m1 m2 m3 m6 m13 m14 m17 m18 m19 rz hf hs len ec ep pos bg bad plc sta shm text (by omega) (by omega)) okV_X7_here k_ml_X7_116 rfl rfl ⟨Nat.le_of_ble_eq_true rfl, Nat.le_of_ble_eq_true rfl⟩ hN hK hP hD hS hA [0, 1] [] [0, 1] (by decide) rfl rfl (by decide) (by decide) (by decide) rfl (q0 := 0) rfl rfl rfl rfl hl.1 (Nat.le_of_ble_eq_true rfl) dX7_number_10 ⟨Nat.le_refl _, Nat.le_refl _⟩ (fun H locs hP hD hS => ?_)
    refine lv_i2l (v := (Int32.toInt64 ((f_X7_here len pos text).1))) hx hb dX7_number_13 rfl ?_
    refine lv_ldc2 (v := 48) hx hb hown (hts _ k_lc_X7_133) dX7_number_14 ?_
    refine lv_ldc2 (v := 57) hx hb hown (hts _ k_lc_X7_135) dX7_number_17 ?_
    refine gS (As := [.long (Int32.toInt64 ((f_X7_here len pos text).1)), .long 48, .long 57]) (rest := []) (wr := [(m0, .inr (10, [.int rz, .ref m1, .ref m2, .ref m3, .int hf, .int hs, .ref m6, .int len, .int ec, .int ep, .int ((f_X7_here len pos text).2), .int bg, .int bad, .ref m13, .ref m14, .int plc, .int sta, .ref m17, .ref m18, .ref m19, .int shm])), (m6, .inl (G.2.1.1, 600, .inl text))]) (ws' := [(m0, .inr (10, [.int rz, .ref m1, .ref m2, .ref m3, .int hf, .int hs, .ref m6, .int len, .int ec, .int ep, .int ((f_X7_here len pos text).2), .int bg, .int bad, .ref m13, .ref m14, .int plc, .int sta, .ref m17, .ref m18, .ref m19, .int shm])), (m6, .inl (G.2.1.1, 600, .inl text))]) F (c_X7_in l G (Int32.toInt64 ((f_X7_here len pos text).1)) 48 57) okS_X7_in k_ml_X7_81 rfl rfl ⟨Nat.le_of_ble_eq_true rfl, Nat.le_of_ble_eq_true rfl⟩ hN hK hP hD hS hA [] [0, 1] [0, 1] (by decide) rfl rfl (by decide) (by decide) (by decide) rfl rfl rfl hl.1 (Nat.le_of_ble_eq_true rfl) dX7_number_20 ⟨Nat.le_refl _, Nat.le_refl _⟩ (fun H locs hP hD hS => ?_)
    refine lv_istore (lv' := [(4, .int (f_X7_in (Int32.toInt64 ((f_X7_here len pos text).1)) 48 57)), (0, .ref m0), (1, .int p0), (2, .int p1), (3, .int p2)]) hx hb dX7_number_23 hl (by decide) rfl (fun ls hl => ?_)
    refine lv_aload_n hx hb dX7_number_25 rfl (lv_at hl 1 rfl) ?_
    refine va_get (D := G.1) (ci := 10) (v := .int ((f_X7_here len pos text).2)) (C := RX7) (T := TX7) (N := 21) hx hb hts in_X7 hown hK hP 0 rfl rfl 10 (by decide) (hts _ k_fl_X7_106) (fun _ h9 => h9) rfl dX7_number_26 ?_
    refine lv_istore (lv' := [(5, .int ((f_X7_here len pos text).2)), (4, .int (f_X7_in (Int32.toInt64 ((f_X7_here len pos text).1)) 48 57)), (0, .ref m0), (1, .int p0), (2, .int p1), (3, .int p2)]) hx hb dX7_number_29 hl (by decide) rfl (fun ls hl => ?_)
    refine lv_iconst (v := 0) hx hb dX7_number_31 (by decide) ?_
    refine lv_istore (lv' := [(6, .int 0), (5, .int ((f_X7_here len pos text).2)), (4, .int (f_X7_in (Int32.toInt64 ((f_X7_here len pos text).1)) 48 57)), (0, .ref m0), (1, .int p0), (2, .int p1), (3, .int p2)]) hx hb dX7_number_32 hl (by decide) rfl (fun ls hl => ?_)
    have loop_34 : ∀ (fu : Nat) (y0_10 : Int32) (x6 : Int32), (0 ≤ y0_10.toInt) → (len.toInt - y0_10.toInt).toNat < fu → (f_X7_number len ec ep pos bad text p0 p1 p2) = wl_X7_number len ec ep pos bad text p0 p1 p2 fu y0_10 x6 → ∀ (H : Heap) (locs : List Loc), va_P G.1 vwCl [(m0, .inr (10, [.int rz, .ref m1, .ref m2, .ref m3, .int hf, .int hs, .ref m6, .int len, .int ec, .int ep, .int y0_10, .int bg, .int bad, .ref m13, .ref m14, .int plc, .int sta, .ref m17, .ref m18, .ref m19, .int shm])), (m6, .inl (G.2.1.1, 600, .inl text))] H → va_D A [(m0, .inr (10, [.int rz, .ref m1, .ref m2, .ref m3, .int hf, .int hs, .ref m6, .int len, .int ec, .int ep, .int y0_10, .int bg, .int bad, .ref m13, .ref m14, .int plc, .int sta, .ref m17, .ref m18, .ref m19, .int shm])), (m6, .inl (G.2.1.1, 600, .inl text))] → va_S A s.heap H locs → ∀ ls : Array Slot, lv_has ls 7 [(6, .int x6), (5, .int ((f_X7_here len pos text).2)), (4, .int (f_X7_in (Int32.toInt64 ((f_X7_here len pos text).1)) 48 57)), (0, .ref m0), (1, .int p0), (2, .int p1), (3, .int p2)] → W p l e { frames := 1, cells := 0, slots := 0, locals := 25 } s m args below meth c H locs 0 0 (MQ below (gQ G (some (.int ((f_X7_number len ec ep pos bad text p0 p1 p2).1))) [(m0, .inr (10, [.int rz, .ref m1, .ref m2, .ref m3, .int hf, .int hs, .ref m6, .int len, .int ((f_X7_number len ec ep pos bad text p0 p1 p2).2.1), .int ((f_X7_number len ec ep pos bad text p0 p1 p2).2.2.1), .int ((f_X7_number len ec ep pos bad text p0 p1 p2).2.2.2.1), .int bg, .int ((f_X7_number len ec ep pos bad text p0 p1 p2).2.2.2.2), .ref m13, .ref m14, .int plc, .int sta, .ref m17, .ref m18, .ref m19, .int shm])), (m6, .inl (G.2.1.1, 600, .inl text))] A) args s 0 0 A) (F0 m 34 ls []) := by
      intro fu
      induction fu with
      | zero =>
        intro y0_10 x6 hI hn
        exact absurd hn (Nat.not_lt_zero _)
      | succ fu ih =>
        intro y0_10 x6 hI hn hO H locs hP hD hS ls hl
        refine lv_iload hx hb dX7_number_34 (lv_at hl 2 rfl) ?_
        refine lv_if_eq (tgt := 122) hx hb dX7_number_36 (by decide) (fun c_2 => ?_) (fun c_2 => ?_)
        · skip
          refine lv_iload_n hx hb dX7_number_122 rfl (lv_at hl 6 rfl) ?_
          refine lv_if_eq (tgt := 132) hx hb dX7_number_123 (by decide) (fun c_3 => ?_) (fun c_3 => ?_)
          · skip
            refine lv_iload hx hb dX7_number_132 (lv_at hl 0 rfl) ?_
            refine lv_istore (lv' := [(6, .int x6), (5, .int ((f_X7_here len pos text).2)), (4, .int (f_X7_in (Int32.toInt64 ((f_X7_here len pos text).1)) 48 57)), (0, .ref m0), (1, .int p0), (2, .int p1), (3, .int p2)]) hx hb dX7_number_134 hl (by decide) rfl (fun ls hl => ?_)
            refine lv_iload hx hb dX7_number_136 (lv_at hl 2 rfl) ?_
            refine lv_if_eq (tgt := 153) hx hb dX7_number_138 (by decide) (fun c_4 => ?_) (fun c_4 => ?_)
            · skip
              refine lv_aload_n hx hb dX7_number_153 rfl (lv_at hl 3 rfl) ?_
              refine lv_iconst (v := 1) hx hb dX7_number_154 (by decide) ?_
              refine lv_iload hx hb dX7_number_155 (lv_at hl 1 rfl) ?_
              refine gV (As := [.int 1, .int ((f_X7_here len pos text).2)]) (rest := []) (wr := [(m6, .inl (G.2.1.1, 600, .inl text))]) (ws' := [(m0, .inr (10, [.int rz, .ref m1, .ref m2, .ref m3, .int hf, .int hs, .ref m6, .int len, .int ((f_X7_wrong ec ep bad 1 ((f_X7_here len pos text).2)).1), .int ((f_X7_wrong ec ep bad 1 ((f_X7_here len pos text).2)).2.1), .int y0_10, .int bg, .int ((f_X7_wrong ec ep bad 1 ((f_X7_here len pos text).2)).2.2), .ref m13, .ref m14, .int plc, .int sta, .ref m17, .ref m18, .ref m19, .int shm])), (m6, .inl (G.2.1.1, 600, .inl text))]) F (c_X7_wrong l G m0 m1 m2 m3 m6 m13 m14 m17 m18 m19 rz hf hs len ec ep y0_10 bg bad plc sta shm 1 ((f_X7_here len pos text).2)) okV_X7_wrong k_ml_X7_137 rfl rfl ⟨Nat.le_of_ble_eq_true rfl, Nat.le_of_ble_eq_true rfl⟩ hN hK hP hD hS hA [0] [1] [1, 0] (by decide) rfl rfl (by decide) (by decide) (by decide) rfl (q0 := 0) rfl rfl rfl rfl hl.1 (Nat.le_of_ble_eq_true rfl) dX7_number_157 ⟨Nat.le_refl _, Nat.le_refl _⟩ (fun H locs hP hD hS => ?_)
              refine lv_goto (tgt := 183) hx hb dX7_number_160 (by decide) ?_
              refine lv_aload_n hx hb dX7_number_183 rfl (lv_at hl 3 rfl) ?_
              refine va_get (D := G.1) (ci := 10) (v := .int ((f_X7_wrong ec ep bad 1 ((f_X7_here len pos text).2)).2.2)) (C := RX7) (T := TX7) (N := 21) hx hb hts in_X7 hown hK hP 0 rfl rfl 12 (by decide) (hts _ k_fl_X7_109) (fun _ h9 => h9) rfl dX7_number_184 ?_
              refine lv_if_eq (tgt := 194) hx hb dX7_number_187 (by decide) (fun c_5 => ?_) (fun c_5 => ?_)
              · skip
                refine lv_iload hx hb dX7_number_194 (lv_at hl 0 rfl) ?_
                have ef : (f_X7_number len ec ep pos bad text p0 p1 p2) = (x6, (f_X7_wrong ec ep bad 1 ((f_X7_here len pos text).2)).1, (f_X7_wrong ec ep bad 1 ((f_X7_here len pos text).2)).2.1, y0_10, (f_X7_wrong ec ep bad 1 ((f_X7_here len pos text).2)).2.2) := (hO.trans (((if_pos c_2).trans ((if_pos c_3).trans (if_pos c_5)))))
                exact gRetI F hr hlocks hK hP hD hS (by rw [ef]) (by rw [ef]) (Nat.le_of_ble_eq_true rfl) (Nat.le_of_ble_eq_true rfl) dX7_number_196
              · skip
                refine lv_iconst (v := 0) hx hb dX7_number_190 (by decide) ?_
                refine lv_goto (tgt := 196) hx hb dX7_number_191 (by decide) ?_
                have ef : (f_X7_number len ec ep pos bad text p0 p1 p2) = (0, (f_X7_wrong ec ep bad 1 ((f_X7_here len pos text).2)).1, (f_X7_wrong ec ep bad 1 ((f_X7_here len pos text).2)).2.1, y0_10, (f_X7_wrong ec ep bad 1 ((f_X7_here len pos text).2)).2.2) := (hO.trans (((if_pos c_2).trans ((if_pos c_3).trans (if_neg c_5)))))
                exact gRetI F hr hlocks hK hP hD hS (by rw [ef]) (by rw [ef]) (Nat.le_of_ble_eq_true rfl) (Nat.le_of_ble_eq_true rfl) dX7_number_196
            · first | exact absurd c_2 c_4 | exact absurd c_4 c_2
          · skip
            refine lv_iload hx hb dX7_number_126 (lv_at hl 0 rfl) ?_
            refine lv_ineg hx hb dX7_number_128 ?_
            refine lv_goto (tgt := 134) hx hb dX7_number_129 (by decide) ?_
            refine lv_istore (lv' := [(6, .int (-x6)), (5, .int ((f_X7_here len pos text).2)), (4, .int (f_X7_in (Int32.toInt64 ((f_X7_here len pos text).1)) 48 57)), (0, .ref m0), (1, .int p0), (2, .int p1), (3, .int p2)]) hx hb dX7_number_134 hl (by decide) rfl (fun ls hl => ?_)
            refine lv_iload hx hb dX7_number_136 (lv_at hl 2 rfl) ?_
            refine lv_if_eq (tgt := 153) hx hb dX7_number_138 (by decide) (fun c_6 => ?_) (fun c_6 => ?_)
            · skip
              refine lv_aload_n hx hb dX7_number_153 rfl (lv_at hl 3 rfl) ?_
              refine lv_iconst (v := 1) hx hb dX7_number_154 (by decide) ?_
              refine lv_iload hx hb dX7_number_155 (lv_at hl 1 rfl) ?_
              refine gV (As := [.int 1, .int ((f_X7_here len pos text).2)]) (rest := []) (wr := [(m6, .inl (G.2.1.1, 600, .inl text))]) (ws' := [(m0, .inr (10, [.int rz, .ref m1, .ref m2, .ref m3, .int hf, .int hs, .ref m6, .int len, .int ((f_X7_wrong ec ep bad 1 ((f_X7_here len pos text).2)).1), .int ((f_X7_wrong ec ep bad 1 ((f_X7_here len pos text).2)).2.1), .int y0_10, .int bg, .int ((f_X7_wrong ec ep bad 1 ((f_X7_here len pos text).2)).2.2), .ref m13, .ref m14, .int plc, .int sta, .ref m17, .ref m18, .ref m19, .int shm])), (m6, .inl (G.2.1.1, 600, .inl text))]) F (c_X7_wrong l G m0 m1 m2 m3 m6 m13 m14 m17 m18 m19 rz hf hs len ec ep y0_10 bg bad plc sta shm 1 ((f_X7_here len pos text).2)) okV_X7_wrong k_ml_X7_137 rfl rfl ⟨Nat.le_of_ble_eq_true rfl, Nat.le_of_ble_eq_true rfl⟩ hN hK hP hD hS hA [0] [1] [1, 0] (by decide) rfl rfl (by decide) (by decide) (by decide) rfl (q0 := 0) rfl rfl rfl rfl hl.1 (Nat.le_of_ble_eq_true rfl) dX7_number_157 ⟨Nat.le_refl _, Nat.le_refl _⟩ (fun H locs hP hD hS => ?_)
              refine lv_goto (tgt := 183) hx hb dX7_number_160 (by decide) ?_
              refine lv_aload_n hx hb dX7_number_183 rfl (lv_at hl 3 rfl) ?_
              refine va_get (D := G.1) (ci := 10) (v := .int ((f_X7_wrong ec ep bad 1 ((f_X7_here len pos text).2)).2.2)) (C := RX7) (T := TX7) (N := 21) hx hb hts in_X7 hown hK hP 0 rfl rfl 12 (by decide) (hts _ k_fl_X7_109) (fun _ h9 => h9) rfl dX7_number_184 ?_
              refine lv_if_eq (tgt := 194) hx hb dX7_number_187 (by decide) (fun c_7 => ?_) (fun c_7 => ?_)
              · skip
                refine lv_iload hx hb dX7_number_194 (lv_at hl 0 rfl) ?_
                have ef : (f_X7_number len ec ep pos bad text p0 p1 p2) = ((-x6), (f_X7_wrong ec ep bad 1 ((f_X7_here len pos text).2)).1, (f_X7_wrong ec ep bad 1 ((f_X7_here len pos text).2)).2.1, y0_10, (f_X7_wrong ec ep bad 1 ((f_X7_here len pos text).2)).2.2) := (hO.trans (((if_pos c_2).trans ((if_neg c_3).trans (if_pos c_7)))))
                exact gRetI F hr hlocks hK hP hD hS (by rw [ef]) (by rw [ef]) (Nat.le_of_ble_eq_true rfl) (Nat.le_of_ble_eq_true rfl) dX7_number_196
              · skip
                refine lv_iconst (v := 0) hx hb dX7_number_190 (by decide) ?_
                refine lv_goto (tgt := 196) hx hb dX7_number_191 (by decide) ?_
                have ef : (f_X7_number len ec ep pos bad text p0 p1 p2) = (0, (f_X7_wrong ec ep bad 1 ((f_X7_here len pos text).2)).1, (f_X7_wrong ec ep bad 1 ((f_X7_here len pos text).2)).2.1, y0_10, (f_X7_wrong ec ep bad 1 ((f_X7_here len pos text).2)).2.2) := (hO.trans (((if_pos c_2).trans ((if_neg c_3).trans (if_neg c_7)))))
                exact gRetI F hr hlocks hK hP hD hS (by rw [ef]) (by rw [ef]) (Nat.le_of_ble_eq_true rfl) (Nat.le_of_ble_eq_true rfl) dX7_number_196
            · first | exact absurd c_2 c_6 | exact absurd c_6 c_2
        · skip
          refine lv_aload_n hx hb dX7_number_39 rfl (lv_at hl 3 rfl) ?_
          refine va_get (D := G.1) (ci := 10) (v := .int y0_10) (C := RX7) (T := TX7) (N := 21) hx hb hts in_X7 hown hK hP 0 rfl rfl 10 (by decide) (hts _ k_fl_X7_106) (fun _ h9 => h9) rfl dX7_number_40 ?_
          refine lv_aload_n hx hb dX7_number_43 rfl (lv_at hl 3 rfl) ?_
          refine va_get (D := G.1) (ci := 10) (v := .int len) (C := RX7) (T := TX7) (N := 21) hx hb hts in_X7 hown hK hP 0 rfl rfl 7 (by decide) (hts _ k_fl_X7_95) (fun _ h9 => h9) rfl dX7_number_44 ?_
          refine lv_icmp_ge (tgt := 122) hx hb dX7_number_47 (by decide) (fun c_8 => ?_) (fun c_8 => ?_)
          · skip
            refine lv_iload_n hx hb dX7_number_122 rfl (lv_at hl 6 rfl) ?_
            refine lv_if_eq (tgt := 132) hx hb dX7_number_123 (by decide) (fun c_9 => ?_) (fun c_9 => ?_)
            · skip
              refine lv_iload hx hb dX7_number_132 (lv_at hl 0 rfl) ?_
              refine lv_istore (lv' := [(6, .int x6), (5, .int ((f_X7_here len pos text).2)), (4, .int (f_X7_in (Int32.toInt64 ((f_X7_here len pos text).1)) 48 57)), (0, .ref m0), (1, .int p0), (2, .int p1), (3, .int p2)]) hx hb dX7_number_134 hl (by decide) rfl (fun ls hl => ?_)
              refine lv_iload hx hb dX7_number_136 (lv_at hl 2 rfl) ?_
              refine lv_if_eq (tgt := 153) hx hb dX7_number_138 (by decide) (fun c_10 => ?_) (fun c_10 => ?_)
              · first | exact absurd c_2 c_10 | exact absurd c_10 c_2
              · skip
                refine lv_aload_n hx hb dX7_number_141 rfl (lv_at hl 3 rfl) ?_
                refine va_get (D := G.1) (ci := 10) (v := .int y0_10) (C := RX7) (T := TX7) (N := 21) hx hb hts in_X7 hown hK hP 0 rfl rfl 10 (by decide) (hts _ k_fl_X7_106) (fun _ h9 => h9) rfl dX7_number_142 ?_
                refine lv_iload hx hb dX7_number_145 (lv_at hl 1 rfl) ?_
                refine lv_isub hx hb dX7_number_147 ?_
                refine lv_bipush (v := 6) hx hb dX7_number_148 (by decide) ?_
                refine lv_icmp_le (tgt := 163) hx hb dX7_number_150 (by decide) (fun c_11 => ?_) (fun c_11 => ?_)
                · skip
                  refine lv_iload hx hb dX7_number_163 (lv_at hl 0 rfl) ?_
                  refine lv_i2l (v := (Int32.toInt64 x6)) hx hb dX7_number_165 rfl ?_
                  refine lv_iload_n hx hb dX7_number_166 rfl (lv_at hl 4 rfl) ?_
                  refine lv_i2l (v := (Int32.toInt64 p0)) hx hb dX7_number_167 rfl ?_
                  refine lv_iload_n hx hb dX7_number_168 rfl (lv_at hl 5 rfl) ?_
                  refine lv_i2l (v := (Int32.toInt64 p1)) hx hb dX7_number_169 rfl ?_
                  refine gS (As := [.long (Int32.toInt64 x6), .long (Int32.toInt64 p0), .long (Int32.toInt64 p1)]) (rest := []) (wr := [(m0, .inr (10, [.int rz, .ref m1, .ref m2, .ref m3, .int hf, .int hs, .ref m6, .int len, .int ec, .int ep, .int y0_10, .int bg, .int bad, .ref m13, .ref m14, .int plc, .int sta, .ref m17, .ref m18, .ref m19, .int shm])), (m6, .inl (G.2.1.1, 600, .inl text))]) (ws' := [(m0, .inr (10, [.int rz, .ref m1, .ref m2, .ref m3, .int hf, .int hs, .ref m6, .int len, .int ec, .int ep, .int y0_10, .int bg, .int bad, .ref m13, .ref m14, .int plc, .int sta, .ref m17, .ref m18, .ref m19, .int shm])), (m6, .inl (G.2.1.1, 600, .inl text))]) F (c_X7_in l G (Int32.toInt64 x6) (Int32.toInt64 p0) (Int32.toInt64 p1)) okS_X7_in k_ml_X7_81 rfl rfl ⟨Nat.le_of_ble_eq_true rfl, Nat.le_of_ble_eq_true rfl⟩ hN hK hP hD hS hA [] [0, 1] [0, 1] (by decide) rfl rfl (by decide) (by decide) (by decide) rfl rfl rfl hl.1 (Nat.le_of_ble_eq_true rfl) dX7_number_170 ⟨Nat.le_refl _, Nat.le_refl _⟩ (fun H locs hP hD hS => ?_)
                  refine lv_if_ne (tgt := 183) hx hb dX7_number_173 (by decide) (fun c_12 => ?_) (fun c_12 => ?_)
                  · skip
                    refine lv_aload_n hx hb dX7_number_183 rfl (lv_at hl 3 rfl) ?_
                    refine va_get (D := G.1) (ci := 10) (v := .int bad) (C := RX7) (T := TX7) (N := 21) hx hb hts in_X7 hown hK hP 0 rfl rfl 12 (by decide) (hts _ k_fl_X7_109) (fun _ h9 => h9) rfl dX7_number_184 ?_
                    refine lv_if_eq (tgt := 194) hx hb dX7_number_187 (by decide) (fun c_13 => ?_) (fun c_13 => ?_)
                    · skip
                      refine lv_iload hx hb dX7_number_194 (lv_at hl 0 rfl) ?_
                      have ef : (f_X7_number len ec ep pos bad text p0 p1 p2) = (x6, ec, ep, y0_10, bad) := (hO.trans (((if_neg c_2).trans ((if_pos c_8).trans ((if_pos c_9).trans ((if_pos c_11).trans (if_neg c_12)))))))
                      exact gRetI F hr hlocks hK hP hD hS (by rw [ef]) (by rw [ef]) (Nat.le_of_ble_eq_true rfl) (Nat.le_of_ble_eq_true rfl) dX7_number_196
                    · first | exact absurd c_1 c_13 | exact absurd c_13 c_1
                  · skip
                    refine lv_aload_n hx hb dX7_number_176 rfl (lv_at hl 3 rfl) ?_
                    refine lv_iconst (v := 2) hx hb dX7_number_177 (by decide) ?_
                    refine lv_iload hx hb dX7_number_178 (lv_at hl 1 rfl) ?_
                    refine gV (As := [.int 2, .int ((f_X7_here len pos text).2)]) (rest := []) (wr := [(m6, .inl (G.2.1.1, 600, .inl text))]) (ws' := [(m0, .inr (10, [.int rz, .ref m1, .ref m2, .ref m3, .int hf, .int hs, .ref m6, .int len, .int ((f_X7_wrong ec ep bad 2 ((f_X7_here len pos text).2)).1), .int ((f_X7_wrong ec ep bad 2 ((f_X7_here len pos text).2)).2.1), .int y0_10, .int bg, .int ((f_X7_wrong ec ep bad 2 ((f_X7_here len pos text).2)).2.2), .ref m13, .ref m14, .int plc, .int sta, .ref m17, .ref m18, .ref m19, .int shm])), (m6, .inl (G.2.1.1, 600, .inl text))]) F (c_X7_wrong l G m0 m1 m2 m3 m6 m13 m14 m17 m18 m19 rz hf hs len ec ep y0_10 bg bad plc sta shm 2 ((f_X7_here len pos text).2)) okV_X7_wrong k_ml_X7_137 rfl rfl ⟨Nat.le_of_ble_eq_true rfl, Nat.le_of_ble_eq_true rfl⟩ hN hK hP hD hS hA [0] [1] [1, 0] (by decide) rfl rfl (by decide) (by decide) (by decide) rfl (q0 := 0) rfl rfl rfl rfl hl.1 (Nat.le_of_ble_eq_true rfl) dX7_number_180 ⟨Nat.le_refl _, Nat.le_refl _⟩ (fun H locs hP hD hS => ?_)
                    refine lv_aload_n hx hb dX7_number_183 rfl (lv_at hl 3 rfl) ?_
                    refine va_get (D := G.1) (ci := 10) (v := .int ((f_X7_wrong ec ep bad 2 ((f_X7_here len pos text).2)).2.2)) (C := RX7) (T := TX7) (N := 21) hx hb hts in_X7 hown hK hP 0 rfl rfl 12 (by decide) (hts _ k_fl_X7_109) (fun _ h9 => h9) rfl dX7_number_184 ?_
                    refine lv_if_eq (tgt := 194) hx hb dX7_number_187 (by decide) (fun c_14 => ?_) (fun c_14 => ?_)
                    · skip
                      refine lv_iload hx hb dX7_number_194 (lv_at hl 0 rfl) ?_
                      have ef : (f_X7_number len ec ep pos bad text p0 p1 p2) = (x6, (f_X7_wrong ec ep bad 2 ((f_X7_here len pos text).2)).1, (f_X7_wrong ec ep bad 2 ((f_X7_here len pos text).2)).2.1, y0_10, (f_X7_wrong ec ep bad 2 ((f_X7_here len pos text).2)).2.2) := (hO.trans (((if_neg c_2).trans ((if_pos c_8).trans ((if_pos c_9).trans ((if_pos c_11).trans ((if_pos c_12).trans (if_pos c_14))))))))
                      exact gRetI F hr hlocks hK hP hD hS (by rw [ef]) (by rw [ef]) (Nat.le_of_ble_eq_true rfl) (Nat.le_of_ble_eq_true rfl) dX7_number_196
                    · skip
                      refine lv_iconst (v := 0) hx hb dX7_number_190 (by decide) ?_
                      refine lv_goto (tgt := 196) hx hb dX7_number_191 (by decide) ?_
                      have ef : (f_X7_number len ec ep pos bad text p0 p1 p2) = (0, (f_X7_wrong ec ep bad 2 ((f_X7_here len pos text).2)).1, (f_X7_wrong ec ep bad 2 ((f_X7_here len pos text).2)).2.1, y0_10, (f_X7_wrong ec ep bad 2 ((f_X7_here len pos text).2)).2.2) := (hO.trans (((if_neg c_2).trans ((if_pos c_8).trans ((if_pos c_9).trans ((if_pos c_11).trans ((if_pos c_12).trans (if_neg c_14))))))))
                      exact gRetI F hr hlocks hK hP hD hS (by rw [ef]) (by rw [ef]) (Nat.le_of_ble_eq_true rfl) (Nat.le_of_ble_eq_true rfl) dX7_number_196
                · skip
                  refine lv_aload_n hx hb dX7_number_153 rfl (lv_at hl 3 rfl) ?_
                  refine lv_iconst (v := 1) hx hb dX7_number_154 (by decide) ?_
                  refine lv_iload hx hb dX7_number_155 (lv_at hl 1 rfl) ?_
                  refine gV (As := [.int 1, .int ((f_X7_here len pos text).2)]) (rest := []) (wr := [(m6, .inl (G.2.1.1, 600, .inl text))]) (ws' := [(m0, .inr (10, [.int rz, .ref m1, .ref m2, .ref m3, .int hf, .int hs, .ref m6, .int len, .int ((f_X7_wrong ec ep bad 1 ((f_X7_here len pos text).2)).1), .int ((f_X7_wrong ec ep bad 1 ((f_X7_here len pos text).2)).2.1), .int y0_10, .int bg, .int ((f_X7_wrong ec ep bad 1 ((f_X7_here len pos text).2)).2.2), .ref m13, .ref m14, .int plc, .int sta, .ref m17, .ref m18, .ref m19, .int shm])), (m6, .inl (G.2.1.1, 600, .inl text))]) F (c_X7_wrong l G m0 m1 m2 m3 m6 m13 m14 m17 m18 m19 rz hf hs len ec ep y0_10 bg bad plc sta shm 1 ((f_X7_here len pos text).2)) okV_X7_wrong k_ml_X7_137 rfl rfl ⟨Nat.le_of_ble_eq_true rfl, Nat.le_of_ble_eq_true rfl⟩ hN hK hP hD hS hA [0] [1] [1, 0] (by decide) rfl rfl (by decide) (by decide) (by decide) rfl (q0 := 0) rfl rfl rfl rfl hl.1 (Nat.le_of_ble_eq_true rfl) dX7_number_157 ⟨Nat.le_refl _, Nat.le_refl _⟩ (fun H locs hP hD hS => ?_)
                  refine lv_goto (tgt := 183) hx hb dX7_number_160 (by decide) ?_
                  refine lv_aload_n hx hb dX7_number_183 rfl (lv_at hl 3 rfl) ?_
                  refine va_get (D := G.1) (ci := 10) (v := .int ((f_X7_wrong ec ep bad 1 ((f_X7_here len pos text).2)).2.2)) (C := RX7) (T := TX7) (N := 21) hx hb hts in_X7 hown hK hP 0 rfl rfl 12 (by decide) (hts _ k_fl_X7_109) (fun _ h9 => h9) rfl dX7_number_184 ?_
                  refine lv_if_eq (tgt := 194) hx hb dX7_number_187 (by decide) (fun c_15 => ?_) (fun c_15 => ?_)
                  · skip
                    refine lv_iload hx hb dX7_number_194 (lv_at hl 0 rfl) ?_
                    have ef : (f_X7_number len ec ep pos bad text p0 p1 p2) = (x6, (f_X7_wrong ec ep bad 1 ((f_X7_here len pos text).2)).1, (f_X7_wrong ec ep bad 1 ((f_X7_here len pos text).2)).2.1, y0_10, (f_X7_wrong ec ep bad 1 ((f_X7_here len pos text).2)).2.2) := (hO.trans (((if_neg c_2).trans ((if_pos c_8).trans ((if_pos c_9).trans ((if_neg c_11).trans (if_pos c_15)))))))
                    exact gRetI F hr hlocks hK hP hD hS (by rw [ef]) (by rw [ef]) (Nat.le_of_ble_eq_true rfl) (Nat.le_of_ble_eq_true rfl) dX7_number_196
                  · skip
                    refine lv_iconst (v := 0) hx hb dX7_number_190 (by decide) ?_
                    refine lv_goto (tgt := 196) hx hb dX7_number_191 (by decide) ?_
                    have ef : (f_X7_number len ec ep pos bad text p0 p1 p2) = (0, (f_X7_wrong ec ep bad 1 ((f_X7_here len pos text).2)).1, (f_X7_wrong ec ep bad 1 ((f_X7_here len pos text).2)).2.1, y0_10, (f_X7_wrong ec ep bad 1 ((f_X7_here len pos text).2)).2.2) := (hO.trans (((if_neg c_2).trans ((if_pos c_8).trans ((if_pos c_9).trans ((if_neg c_11).trans (if_neg c_15)))))))
                    exact gRetI F hr hlocks hK hP hD hS (by rw [ef]) (by rw [ef]) (Nat.le_of_ble_eq_true rfl) (Nat.le_of_ble_eq_true rfl) dX7_number_196
            · skip
              refine lv_iload hx hb dX7_number_126 (lv_at hl 0 rfl) ?_
              refine lv_ineg hx hb dX7_number_128 ?_
              refine lv_goto (tgt := 134) hx hb dX7_number_129 (by decide) ?_
              refine lv_istore (lv' := [(6, .int (-x6)), (5, .int ((f_X7_here len pos text).2)), (4, .int (f_X7_in (Int32.toInt64 ((f_X7_here len pos text).1)) 48 57)), (0, .ref m0), (1, .int p0), (2, .int p1), (3, .int p2)]) hx hb dX7_number_134 hl (by decide) rfl (fun ls hl => ?_)
              refine lv_iload hx hb dX7_number_136 (lv_at hl 2 rfl) ?_
              refine lv_if_eq (tgt := 153) hx hb dX7_number_138 (by decide) (fun c_16 => ?_) (fun c_16 => ?_)
              · first | exact absurd c_2 c_16 | exact absurd c_16 c_2
              · skip
                refine lv_aload_n hx hb dX7_number_141 rfl (lv_at hl 3 rfl) ?_
                refine va_get (D := G.1) (ci := 10) (v := .int y0_10) (C := RX7) (T := TX7) (N := 21) hx hb hts in_X7 hown hK hP 0 rfl rfl 10 (by decide) (hts _ k_fl_X7_106) (fun _ h9 => h9) rfl dX7_number_142 ?_
                refine lv_iload hx hb dX7_number_145 (lv_at hl 1 rfl) ?_
                refine lv_isub hx hb dX7_number_147 ?_
                refine lv_bipush (v := 6) hx hb dX7_number_148 (by decide) ?_
                refine lv_icmp_le (tgt := 163) hx hb dX7_number_150 (by decide) (fun c_17 => ?_) (fun c_17 => ?_)
                · skip
                  refine lv_iload hx hb dX7_number_163 (lv_at hl 0 rfl) ?_
                  refine lv_i2l (v := (Int32.toInt64 (-x6))) hx hb dX7_number_165 rfl ?_
                  refine lv_iload_n hx hb dX7_number_166 rfl (lv_at hl 4 rfl) ?_
                  refine lv_i2l (v := (Int32.toInt64 p0)) hx hb dX7_number_167 rfl ?_
                  refine lv_iload_n hx hb dX7_number_168 rfl (lv_at hl 5 rfl) ?_
                  refine lv_i2l (v := (Int32.toInt64 p1)) hx hb dX7_number_169 rfl ?_
                  refine gS (As := [.long (Int32.toInt64 (-x6)), .long (Int32.toInt64 p0), .long (Int32.toInt64 p1)]) (rest := []) (wr := [(m0, .inr (10, [.int rz, .ref m1, .ref m2, .ref m3, .int hf, .int hs, .ref m6, .int len, .int ec, .int ep, .int y0_10, .int bg, .int bad, .ref m13, .ref m14, .int plc, .int sta, .ref m17, .ref m18, .ref m19, .int shm])), (m6, .inl (G.2.1.1, 600, .inl text))]) (ws' := [(m0, .inr (10, [.int rz, .ref m1, .ref m2, .ref m3, .int hf, .int hs, .ref m6, .int len, .int ec, .int ep, .int y0_10, .int bg, .int bad, .ref m13, .ref m14, .int plc, .int sta, .ref m17, .ref m18, .ref m19, .int shm])), (m6, .inl (G.2.1.1, 600, .inl text))]) F (c_X7_in l G (Int32.toInt64 (-x6)) (Int32.toInt64 p0) (Int32.toInt64 p1)) okS_X7_in k_ml_X7_81 rfl rfl ⟨Nat.le_of_ble_eq_true rfl, Nat.le_of_ble_eq_true rfl⟩ hN hK hP hD hS hA [] [0, 1] [0, 1] (by decide) rfl rfl (by decide) (by decide) (by decide) rfl rfl rfl hl.1 (Nat.le_of_ble_eq_true rfl) dX7_number_170 ⟨Nat.le_refl _, Nat.le_refl _⟩ (fun H locs hP hD hS => ?_)
                  refine lv_if_ne (tgt := 183) hx hb dX7_number_173 (by decide) (fun c_18 => ?_) (fun c_18 => ?_)
                  · skip
                    refine lv_aload_n hx hb dX7_number_183 rfl (lv_at hl 3 rfl) ?_
                    refine va_get (D := G.1) (ci := 10) (v := .int bad) (C := RX7) (T := TX7) (N := 21) hx hb hts in_X7 hown hK hP 0 rfl rfl 12 (by decide) (hts _ k_fl_X7_109) (fun _ h9 => h9) rfl dX7_number_184 ?_
                    refine lv_if_eq (tgt := 194) hx hb dX7_number_187 (by decide) (fun c_19 => ?_) (fun c_19 => ?_)
                    · skip
                      refine lv_iload hx hb dX7_number_194 (lv_at hl 0 rfl) ?_
                      have ef : (f_X7_number len ec ep pos bad text p0 p1 p2) = ((-x6), ec, ep, y0_10, bad) := (hO.trans (((if_neg c_2).trans ((if_pos c_8).trans ((if_neg c_9).trans ((if_pos c_17).trans (if_neg c_18)))))))
                      exact gRetI F hr hlocks hK hP hD hS (by rw [ef]) (by rw [ef]) (Nat.le_of_ble_eq_true rfl) (Nat.le_of_ble_eq_true rfl) dX7_number_196
                    · first | exact absurd c_1 c_19 | exact absurd c_19 c_1
                  · skip
                    refine lv_aload_n hx hb dX7_number_176 rfl (lv_at hl 3 rfl) ?_
                    refine lv_iconst (v := 2) hx hb dX7_number_177 (by decide) ?_
                    refine lv_iload hx hb dX7_number_178 (lv_at hl 1 rfl) ?_
                    refine gV (As := [.int 2, .int ((f_X7_here len pos text).2)]) (rest := []) (wr := [(m6, .inl (G.2.1.1, 600, .inl text))]) (ws' := [(m0, .inr (10, [.int rz, .ref m1, .ref m2, .ref m3, .int hf, .int hs, .ref m6, .int len, .int ((f_X7_wrong ec ep bad 2 ((f_X7_here len pos text).2)).1), .int ((f_X7_wrong ec ep bad 2 ((f_X7_here len pos text).2)).2.1), .int y0_10, .int bg, .int ((f_X7_wrong ec ep bad 2 ((f_X7_here len pos text).2)).2.2), .ref m13, .ref m14, .int plc, .int sta, .ref m17, .ref m18, .ref m19, .int shm])), (m6, .inl (G.2.1.1, 600, .inl text))]) F (c_X7_wrong l G m0 m1 m2 m3 m6 m13 m14 m17 m18 m19 rz hf hs len ec ep y0_10 bg bad plc sta shm 2 ((f_X7_here len pos text).2)) okV_X7_wrong k_ml_X7_137 rfl rfl ⟨Nat.le_of_ble_eq_true rfl, Nat.le_of_ble_eq_true rfl⟩ hN hK hP hD hS hA [0] [1] [1, 0] (by decide) rfl rfl (by decide) (by decide) (by decide) rfl (q0 := 0) rfl rfl rfl rfl hl.1 (Nat.le_of_ble_eq_true rfl) dX7_number_180 ⟨Nat.le_refl _, Nat.le_refl _⟩ (fun H locs hP hD hS => ?_)
                    refine lv_aload_n hx hb dX7_number_183 rfl (lv_at hl 3 rfl) ?_
                    refine va_get (D := G.1) (ci := 10) (v := .int ((f_X7_wrong ec ep bad 2 ((f_X7_here len pos text).2)).2.2)) (C := RX7) (T := TX7) (N := 21) hx hb hts in_X7 hown hK hP 0 rfl rfl 12 (by decide) (hts _ k_fl_X7_109) (fun _ h9 => h9) rfl dX7_number_184 ?_
                    refine lv_if_eq (tgt := 194) hx hb dX7_number_187 (by decide) (fun c_20 => ?_) (fun c_20 => ?_)
                    · skip
                      refine lv_iload hx hb dX7_number_194 (lv_at hl 0 rfl) ?_
                      have ef : (f_X7_number len ec ep pos bad text p0 p1 p2) = ((-x6), (f_X7_wrong ec ep bad 2 ((f_X7_here len pos text).2)).1, (f_X7_wrong ec ep bad 2 ((f_X7_here len pos text).2)).2.1, y0_10, (f_X7_wrong ec ep bad 2 ((f_X7_here len pos text).2)).2.2) := (hO.trans (((if_neg c_2).trans ((if_pos c_8).trans ((if_neg c_9).trans ((if_pos c_17).trans ((if_pos c_18).trans (if_pos c_20))))))))
                      exact gRetI F hr hlocks hK hP hD hS (by rw [ef]) (by rw [ef]) (Nat.le_of_ble_eq_true rfl) (Nat.le_of_ble_eq_true rfl) dX7_number_196
                    · skip
                      refine lv_iconst (v := 0) hx hb dX7_number_190 (by decide) ?_
                      refine lv_goto (tgt := 196) hx hb dX7_number_191 (by decide) ?_
                      have ef : (f_X7_number len ec ep pos bad text p0 p1 p2) = (0, (f_X7_wrong ec ep bad 2 ((f_X7_here len pos text).2)).1, (f_X7_wrong ec ep bad 2 ((f_X7_here len pos text).2)).2.1, y0_10, (f_X7_wrong ec ep bad 2 ((f_X7_here len pos text).2)).2.2) := (hO.trans (((if_neg c_2).trans ((if_pos c_8).trans ((if_neg c_9).trans ((if_pos c_17).trans ((if_pos c_18).trans (if_neg c_20))))))))
                      exact gRetI F hr hlocks hK hP hD hS (by rw [ef]) (by rw [ef]) (Nat.le_of_ble_eq_true rfl) (Nat.le_of_ble_eq_true rfl) dX7_number_196
                · skip
                  refine lv_aload_n hx hb dX7_number_153 rfl (lv_at hl 3 rfl) ?_
                  refine lv_iconst (v := 1) hx hb dX7_number_154 (by decide) ?_
                  refine lv_iload hx hb dX7_number_155 (lv_at hl 1 rfl) ?_
                  refine gV (As := [.int 1, .int ((f_X7_here len pos text).2)]) (rest := []) (wr := [(m6, .inl (G.2.1.1, 600, .inl text))]) (ws' := [(m0, .inr (10, [.int rz, .ref m1, .ref m2, .ref m3, .int hf, .int hs, .ref m6, .int len, .int ((f_X7_wrong ec ep bad 1 ((f_X7_here len pos text).2)).1), .int ((f_X7_wrong ec ep bad 1 ((f_X7_here len pos text).2)).2.1), .int y0_10, .int bg, .int ((f_X7_wrong ec ep bad 1 ((f_X7_here len pos text).2)).2.2), .ref m13, .ref m14, .int plc, .int sta, .ref m17, .ref m18, .ref m19, .int shm])), (m6, .inl (G.2.1.1, 600, .inl text))]) F (c_X7_wrong l G m0 m1 m2 m3 m6 m13 m14 m17 m18 m19 rz hf hs len ec ep y0_10 bg bad plc sta shm 1 ((f_X7_here len pos text).2)) okV_X7_wrong k_ml_X7_137 rfl rfl ⟨Nat.le_of_ble_eq_true rfl, Nat.le_of_ble_eq_true rfl⟩ hN hK hP hD hS hA [0] [1] [1, 0] (by decide) rfl rfl (by decide) (by decide) (by decide) rfl (q0 := 0) rfl rfl rfl rfl hl.1 (Nat.le_of_ble_eq_true rfl) dX7_number_157 ⟨Nat.le_refl _, Nat.le_refl _⟩ (fun H locs hP hD hS => ?_)
                  refine lv_goto (tgt := 183) hx hb dX7_number_160 (by decide) ?_
                  refine lv_aload_n hx hb dX7_number_183 rfl (lv_at hl 3 rfl) ?_
                  refine va_get (D := G.1) (ci := 10) (v := .int ((f_X7_wrong ec ep bad 1 ((f_X7_here len pos text).2)).2.2)) (C := RX7) (T := TX7) (N := 21) hx hb hts in_X7 hown hK hP 0 rfl rfl 12 (by decide) (hts _ k_fl_X7_109) (fun _ h9 => h9) rfl dX7_number_184 ?_
                  refine lv_if_eq (tgt := 194) hx hb dX7_number_187 (by decide) (fun c_21 => ?_) (fun c_21 => ?_)
                  · skip
                    refine lv_iload hx hb dX7_number_194 (lv_at hl 0 rfl) ?_
                    have ef : (f_X7_number len ec ep pos bad text p0 p1 p2) = ((-x6), (f_X7_wrong ec ep bad 1 ((f_X7_here len pos text).2)).1, (f_X7_wrong ec ep bad 1 ((f_X7_here len pos text).2)).2.1, y0_10, (f_X7_wrong ec ep bad 1 ((f_X7_here len pos text).2)).2.2) := (hO.trans (((if_neg c_2).trans ((if_pos c_8).trans ((if_neg c_9).trans ((if_neg c_17).trans (if_pos c_21)))))))
                    exact gRetI F hr hlocks hK hP hD hS (by rw [ef]) (by rw [ef]) (Nat.le_of_ble_eq_true rfl) (Nat.le_of_ble_eq_true rfl) dX7_number_196
                  · skip
                    refine lv_iconst (v := 0) hx hb dX7_number_190 (by decide) ?_
                    refine lv_goto (tgt := 196) hx hb dX7_number_191 (by decide) ?_
                    have ef : (f_X7_number len ec ep pos bad text p0 p1 p2) = (0, (f_X7_wrong ec ep bad 1 ((f_X7_here len pos text).2)).1, (f_X7_wrong ec ep bad 1 ((f_X7_here len pos text).2)).2.1, y0_10, (f_X7_wrong ec ep bad 1 ((f_X7_here len pos text).2)).2.2) := (hO.trans (((if_neg c_2).trans ((if_pos c_8).trans ((if_neg c_9).trans ((if_neg c_17).trans (if_neg c_21)))))))
                    exact gRetI F hr hlocks hK hP hD hS (by rw [ef]) (by rw [ef]) (Nat.le_of_ble_eq_true rfl) (Nat.le_of_ble_eq_true rfl) dX7_number_196
          · skip
            refine lv_aload_n hx hb dX7_number_50 rfl (lv_at hl 3 rfl) ?_
            refine va_get (D := G.1) (ci := 10) (v := .ref m6) (C := RX7) (T := TX7) (N := 21) hx hb hts in_X7 hown hK hP 0 rfl rfl 6 (by decide) (hts _ k_fl_X7_19) (fun _ h9 => h9) rfl dX7_number_51 ?_
            refine lv_aload_n hx hb dX7_number_54 rfl (lv_at hl 3 rfl) ?_
            refine va_get (D := G.1) (ci := 10) (v := .int y0_10) (C := RX7) (T := TX7) (N := 21) hx hb hts in_X7 hown hK hP 0 rfl rfl 10 (by decide) (hts _ k_fl_X7_106) (fun _ h9 => h9) rfl dX7_number_55 ?_
            refine va_iald hx hb hK hP 1 0 rfl rfl (by have qc_2 := in_ofI (a := 48) (b := 57) c_2 (by decide) (by decide); have qc_8 := c_8; (try rw [gI_le] at qc_8); (try rw [vp_in_iff]); omega) dX7_number_58 ?_
            refine lv_i2l (v := (Int32.toInt64 (text (Int32.toNatClampNeg y0_10)))) hx hb dX7_number_59 rfl ?_
            refine lv_ldc2 (v := 48) hx hb hown (hts _ k_lc_X7_133) dX7_number_60 ?_
            refine lv_ldc2 (v := 57) hx hb hown (hts _ k_lc_X7_135) dX7_number_63 ?_
            refine gS (As := [.long (Int32.toInt64 (text (Int32.toNatClampNeg y0_10))), .long 48, .long 57]) (rest := []) (wr := [(m0, .inr (10, [.int rz, .ref m1, .ref m2, .ref m3, .int hf, .int hs, .ref m6, .int len, .int ec, .int ep, .int y0_10, .int bg, .int bad, .ref m13, .ref m14, .int plc, .int sta, .ref m17, .ref m18, .ref m19, .int shm])), (m6, .inl (G.2.1.1, 600, .inl text))]) (ws' := [(m0, .inr (10, [.int rz, .ref m1, .ref m2, .ref m3, .int hf, .int hs, .ref m6, .int len, .int ec, .int ep, .int y0_10, .int bg, .int bad, .ref m13, .ref m14, .int plc, .int sta, .ref m17, .ref m18, .ref m19, .int shm])), (m6, .inl (G.2.1.1, 600, .inl text))]) F (c_X7_in l G (Int32.toInt64 (text (Int32.toNatClampNeg y0_10))) 48 57) okS_X7_in k_ml_X7_81 rfl rfl ⟨Nat.le_of_ble_eq_true rfl, Nat.le_of_ble_eq_true rfl⟩ hN hK hP hD hS hA [] [0, 1] [0, 1] (by decide) rfl rfl (by decide) (by decide) (by decide) rfl rfl rfl hl.1 (Nat.le_of_ble_eq_true rfl) dX7_number_66 ⟨Nat.le_refl _, Nat.le_refl _⟩ (fun H locs hP hD hS => ?_)
            refine lv_if_eq (tgt := 122) hx hb dX7_number_69 (by decide) (fun c_22 => ?_) (fun c_22 => ?_)
            · skip
              refine lv_iload_n hx hb dX7_number_122 rfl (lv_at hl 6 rfl) ?_
              refine lv_if_eq (tgt := 132) hx hb dX7_number_123 (by decide) (fun c_23 => ?_) (fun c_23 => ?_)
              · skip
                refine lv_iload hx hb dX7_number_132 (lv_at hl 0 rfl) ?_
                refine lv_istore (lv' := [(6, .int x6), (5, .int ((f_X7_here len pos text).2)), (4, .int (f_X7_in (Int32.toInt64 ((f_X7_here len pos text).1)) 48 57)), (0, .ref m0), (1, .int p0), (2, .int p1), (3, .int p2)]) hx hb dX7_number_134 hl (by decide) rfl (fun ls hl => ?_)
                refine lv_iload hx hb dX7_number_136 (lv_at hl 2 rfl) ?_
                refine lv_if_eq (tgt := 153) hx hb dX7_number_138 (by decide) (fun c_24 => ?_) (fun c_24 => ?_)
                · first | exact absurd c_2 c_24 | exact absurd c_24 c_2
                · skip
                  refine lv_aload_n hx hb dX7_number_141 rfl (lv_at hl 3 rfl) ?_
                  refine va_get (D := G.1) (ci := 10) (v := .int y0_10) (C := RX7) (T := TX7) (N := 21) hx hb hts in_X7 hown hK hP 0 rfl rfl 10 (by decide) (hts _ k_fl_X7_106) (fun _ h9 => h9) rfl dX7_number_142 ?_
                  refine lv_iload hx hb dX7_number_145 (lv_at hl 1 rfl) ?_
                  refine lv_isub hx hb dX7_number_147 ?_
                  refine lv_bipush (v := 6) hx hb dX7_number_148 (by decide) ?_
                  refine lv_icmp_le (tgt := 163) hx hb dX7_number_150 (by decide) (fun c_25 => ?_) (fun c_25 => ?_)
                  · skip
                    refine lv_iload hx hb dX7_number_163 (lv_at hl 0 rfl) ?_
                    refine lv_i2l (v := (Int32.toInt64 x6)) hx hb dX7_number_165 rfl ?_
                    refine lv_iload_n hx hb dX7_number_166 rfl (lv_at hl 4 rfl) ?_
                    refine lv_i2l (v := (Int32.toInt64 p0)) hx hb dX7_number_167 rfl ?_
                    refine lv_iload_n hx hb dX7_number_168 rfl (lv_at hl 5 rfl) ?_
                    refine lv_i2l (v := (Int32.toInt64 p1)) hx hb dX7_number_169 rfl ?_
                    refine gS (As := [.long (Int32.toInt64 x6), .long (Int32.toInt64 p0), .long (Int32.toInt64 p1)]) (rest := []) (wr := [(m0, .inr (10, [.int rz, .ref m1, .ref m2, .ref m3, .int hf, .int hs, .ref m6, .int len, .int ec, .int ep, .int y0_10, .int bg, .int bad, .ref m13, .ref m14, .int plc, .int sta, .ref m17, .ref m18, .ref m19, .int shm])), (m6, .inl (G.2.1.1, 600, .inl text))]) (ws' := [(m0, .inr (10, [.int rz, .ref m1, .ref m2, .ref m3, .int hf, .int hs, .ref m6, .int len, .int ec, .int ep, .int y0_10, .int bg, .int bad, .ref m13, .ref m14, .int plc, .int sta, .ref m17, .ref m18, .ref m19, .int shm])), (m6, .inl (G.2.1.1, 600, .inl text))]) F (c_X7_in l G (Int32.toInt64 x6) (Int32.toInt64 p0) (Int32.toInt64 p1)) okS_X7_in k_ml_X7_81 rfl rfl ⟨Nat.le_of_ble_eq_true rfl, Nat.le_of_ble_eq_true rfl⟩ hN hK hP hD hS hA [] [0, 1] [0, 1] (by decide) rfl rfl (by decide) (by decide) (by decide) rfl rfl rfl hl.1 (Nat.le_of_ble_eq_true rfl) dX7_number_170 ⟨Nat.le_refl _, Nat.le_refl _⟩ (fun H locs hP hD hS => ?_)
                    refine lv_if_ne (tgt := 183) hx hb dX7_number_173 (by decide) (fun c_26 => ?_) (fun c_26 => ?_)
                    · skip
                      refine lv_aload_n hx hb dX7_number_183 rfl (lv_at hl 3 rfl) ?_
                      refine va_get (D := G.1) (ci := 10) (v := .int bad) (C := RX7) (T := TX7) (N := 21) hx hb hts in_X7 hown hK hP 0 rfl rfl 12 (by decide) (hts _ k_fl_X7_109) (fun _ h9 => h9) rfl dX7_number_184 ?_
                      refine lv_if_eq (tgt := 194) hx hb dX7_number_187 (by decide) (fun c_27 => ?_) (fun c_27 => ?_)
                      · skip
                        refine lv_iload hx hb dX7_number_194 (lv_at hl 0 rfl) ?_
                        have ef : (f_X7_number len ec ep pos bad text p0 p1 p2) = (x6, ec, ep, y0_10, bad) := (hO.trans (((if_neg c_2).trans ((if_neg c_8).trans ((if_pos c_22).trans ((if_pos c_23).trans ((if_pos c_25).trans (if_neg c_26))))))))
                        exact gRetI F hr hlocks hK hP hD hS (by rw [ef]) (by rw [ef]) (Nat.le_of_ble_eq_true rfl) (Nat.le_of_ble_eq_true rfl) dX7_number_196
                      · first | exact absurd c_1 c_27 | exact absurd c_27 c_1
                    · skip
                      refine lv_aload_n hx hb dX7_number_176 rfl (lv_at hl 3 rfl) ?_
                      refine lv_iconst (v := 2) hx hb dX7_number_177 (by decide) ?_
                      refine lv_iload hx hb dX7_number_178 (lv_at hl 1 rfl) ?_
                      refine gV (As := [.int 2, .int ((f_X7_here len pos text).2)]) (rest := []) (wr := [(m6, .inl (G.2.1.1, 600, .inl text))]) (ws' := [(m0, .inr (10, [.int rz, .ref m1, .ref m2, .ref m3, .int hf, .int hs, .ref m6, .int len, .int ((f_X7_wrong ec ep bad 2 ((f_X7_here len pos text).2)).1), .int ((f_X7_wrong ec ep bad 2 ((f_X7_here len pos text).2)).2.1), .int y0_10, .int bg, .int ((f_X7_wrong ec ep bad 2 ((f_X7_here len pos text).2)).2.2), .ref m13, .ref m14, .int plc, .int sta, .ref m17, .ref m18, .ref m19, .int shm])), (m6, .inl (G.2.1.1, 600, .inl text))]) F (c_X7_wrong l G m0 m1 m2 m3 m6 m13 m14 m17 m18 m19 rz hf hs len ec ep y0_10 bg bad plc sta shm 2 ((f_X7_here len pos text).2)) okV_X7_wrong k_ml_X7_137 rfl rfl ⟨Nat.le_of_ble_eq_true rfl, Nat.le_of_ble_eq_true rfl⟩ hN hK hP hD hS hA [0] [1] [1, 0] (by decide) rfl rfl (by decide) (by decide) (by decide) rfl (q0 := 0) rfl rfl rfl rfl hl.1 (Nat.le_of_ble_eq_true rfl) dX7_number_180 ⟨Nat.le_refl _, Nat.le_refl _⟩ (fun H locs hP hD hS => ?_)
                      refine lv_aload_n hx hb dX7_number_183 rfl (lv_at hl 3 rfl) ?_
                      refine va_get (D := G.1) (ci := 10) (v := .int ((f_X7_wrong ec ep bad 2 ((f_X7_here len pos text).2)).2.2)) (C := RX7) (T := TX7) (N := 21) hx hb hts in_X7 hown hK hP 0 rfl rfl 12 (by decide) (hts _ k_fl_X7_109) (fun _ h9 => h9) rfl dX7_number_184 ?_
                      refine lv_if_eq (tgt := 194) hx hb dX7_number_187 (by decide) (fun c_28 => ?_) (fun c_28 => ?_)
                      · skip
                        refine lv_iload hx hb dX7_number_194 (lv_at hl 0 rfl) ?_
                        have ef : (f_X7_number len ec ep pos bad text p0 p1 p2) = (x6, (f_X7_wrong ec ep bad 2 ((f_X7_here len pos text).2)).1, (f_X7_wrong ec ep bad 2 ((f_X7_here len pos text).2)).2.1, y0_10, (f_X7_wrong ec ep bad 2 ((f_X7_here len pos text).2)).2.2) := (hO.trans (((if_neg c_2).trans ((if_neg c_8).trans ((if_pos c_22).trans ((if_pos c_23).trans ((if_pos c_25).trans ((if_pos c_26).trans (if_pos c_28)))))))))
                        exact gRetI F hr hlocks hK hP hD hS (by rw [ef]) (by rw [ef]) (Nat.le_of_ble_eq_true rfl) (Nat.le_of_ble_eq_true rfl) dX7_number_196
                      · skip
                        refine lv_iconst (v := 0) hx hb dX7_number_190 (by decide) ?_
                        refine lv_goto (tgt := 196) hx hb dX7_number_191 (by decide) ?_
                        have ef : (f_X7_number len ec ep pos bad text p0 p1 p2) = (0, (f_X7_wrong ec ep bad 2 ((f_X7_here len pos text).2)).1, (f_X7_wrong ec ep bad 2 ((f_X7_here len pos text).2)).2.1, y0_10, (f_X7_wrong ec ep bad 2 ((f_X7_here len pos text).2)).2.2) := (hO.trans (((if_neg c_2).trans ((if_neg c_8).trans ((if_pos c_22).trans ((if_pos c_23).trans ((if_pos c_25).trans ((if_pos c_26).trans (if_neg c_28)))))))))
                        exact gRetI F hr hlocks hK hP hD hS (by rw [ef]) (by rw [ef]) (Nat.le_of_ble_eq_true rfl) (Nat.le_of_ble_eq_true rfl) dX7_number_196
                  · skip
                    refine lv_aload_n hx hb dX7_number_153 rfl (lv_at hl 3 rfl) ?_
                    refine lv_iconst (v := 1) hx hb dX7_number_154 (by decide) ?_
                    refine lv_iload hx hb dX7_number_155 (lv_at hl 1 rfl) ?_
                    refine gV (As := [.int 1, .int ((f_X7_here len pos text).2)]) (rest := []) (wr := [(m6, .inl (G.2.1.1, 600, .inl text))]) (ws' := [(m0, .inr (10, [.int rz, .ref m1, .ref m2, .ref m3, .int hf, .int hs, .ref m6, .int len, .int ((f_X7_wrong ec ep bad 1 ((f_X7_here len pos text).2)).1), .int ((f_X7_wrong ec ep bad 1 ((f_X7_here len pos text).2)).2.1), .int y0_10, .int bg, .int ((f_X7_wrong ec ep bad 1 ((f_X7_here len pos text).2)).2.2), .ref m13, .ref m14, .int plc, .int sta, .ref m17, .ref m18, .ref m19, .int shm])), (m6, .inl (G.2.1.1, 600, .inl text))]) F (c_X7_wrong l G m0 m1 m2 m3 m6 m13 m14 m17 m18 m19 rz hf hs len ec ep y0_10 bg bad plc sta shm 1 ((f_X7_here len pos text).2)) okV_X7_wrong k_ml_X7_137 rfl rfl ⟨Nat.le_of_ble_eq_true rfl, Nat.le_of_ble_eq_true rfl⟩ hN hK hP hD hS hA [0] [1] [1, 0] (by decide) rfl rfl (by decide) (by decide) (by decide) rfl (q0 := 0) rfl rfl rfl rfl hl.1 (Nat.le_of_ble_eq_true rfl) dX7_number_157 ⟨Nat.le_refl _, Nat.le_refl _⟩ (fun H locs hP hD hS => ?_)
                    refine lv_goto (tgt := 183) hx hb dX7_number_160 (by decide) ?_
                    refine lv_aload_n hx hb dX7_number_183 rfl (lv_at hl 3 rfl) ?_
                    refine va_get (D := G.1) (ci := 10) (v := .int ((f_X7_wrong ec ep bad 1 ((f_X7_here len pos text).2)).2.2)) (C := RX7) (T := TX7) (N := 21) hx hb hts in_X7 hown hK hP 0 rfl rfl 12 (by decide) (hts _ k_fl_X7_109) (fun _ h9 => h9) rfl dX7_number_184 ?_
                    refine lv_if_eq (tgt := 194) hx hb dX7_number_187 (by decide) (fun c_29 => ?_) (fun c_29 => ?_)
                    · skip
                      refine lv_iload hx hb dX7_number_194 (lv_at hl 0 rfl) ?_
                      have ef : (f_X7_number len ec ep pos bad text p0 p1 p2) = (x6, (f_X7_wrong ec ep bad 1 ((f_X7_here len pos text).2)).1, (f_X7_wrong ec ep bad 1 ((f_X7_here len pos text).2)).2.1, y0_10, (f_X7_wrong ec ep bad 1 ((f_X7_here len pos text).2)).2.2) := (hO.trans (((if_neg c_2).trans ((if_neg c_8).trans ((if_pos c_22).trans ((if_pos c_23).trans ((if_neg c_25).trans (if_pos c_29))))))))
                      exact gRetI F hr hlocks hK hP hD hS (by rw [ef]) (by rw [ef]) (Nat.le_of_ble_eq_true rfl) (Nat.le_of_ble_eq_true rfl) dX7_number_196
                    · skip
                      refine lv_iconst (v := 0) hx hb dX7_number_190 (by decide) ?_
                      refine lv_goto (tgt := 196) hx hb dX7_number_191 (by decide) ?_
                      have ef : (f_X7_number len ec ep pos bad text p0 p1 p2) = (0, (f_X7_wrong ec ep bad 1 ((f_X7_here len pos text).2)).1, (f_X7_wrong ec ep bad 1 ((f_X7_here len pos text).2)).2.1, y0_10, (f_X7_wrong ec ep bad 1 ((f_X7_here len pos text).2)).2.2) := (hO.trans (((if_neg c_2).trans ((if_neg c_8).trans ((if_pos c_22).trans ((if_pos c_23).trans ((if_neg c_25).trans (if_neg c_29))))))))
                      exact gRetI F hr hlocks hK hP hD hS (by rw [ef]) (by rw [ef]) (Nat.le_of_ble_eq_true rfl) (Nat.le_of_ble_eq_true rfl) dX7_number_196
              · skip
                refine lv_iload hx hb dX7_number_126 (lv_at hl 0 rfl) ?_
                refine lv_ineg hx hb dX7_number_128 ?_
                refine lv_goto (tgt := 134) hx hb dX7_number_129 (by decide) ?_
                refine lv_istore (lv' := [(6, .int (-x6)), (5, .int ((f_X7_here len pos text).2)), (4, .int (f_X7_in (Int32.toInt64 ((f_X7_here len pos text).1)) 48 57)), (0, .ref m0), (1, .int p0), (2, .int p1), (3, .int p2)]) hx hb dX7_number_134 hl (by decide) rfl (fun ls hl => ?_)
                refine lv_iload hx hb dX7_number_136 (lv_at hl 2 rfl) ?_
                refine lv_if_eq (tgt := 153) hx hb dX7_number_138 (by decide) (fun c_30 => ?_) (fun c_30 => ?_)
                · first | exact absurd c_2 c_30 | exact absurd c_30 c_2
                · skip
                  refine lv_aload_n hx hb dX7_number_141 rfl (lv_at hl 3 rfl) ?_
                  refine va_get (D := G.1) (ci := 10) (v := .int y0_10) (C := RX7) (T := TX7) (N := 21) hx hb hts in_X7 hown hK hP 0 rfl rfl 10 (by decide) (hts _ k_fl_X7_106) (fun _ h9 => h9) rfl dX7_number_142 ?_
                  refine lv_iload hx hb dX7_number_145 (lv_at hl 1 rfl) ?_
                  refine lv_isub hx hb dX7_number_147 ?_
                  refine lv_bipush (v := 6) hx hb dX7_number_148 (by decide) ?_
                  refine lv_icmp_le (tgt := 163) hx hb dX7_number_150 (by decide) (fun c_31 => ?_) (fun c_31 => ?_)
                  · skip
                    refine lv_iload hx hb dX7_number_163 (lv_at hl 0 rfl) ?_
                    refine lv_i2l (v := (Int32.toInt64 (-x6))) hx hb dX7_number_165 rfl ?_
                    refine lv_iload_n hx hb dX7_number_166 rfl (lv_at hl 4 rfl) ?_
                    refine lv_i2l (v := (Int32.toInt64 p0)) hx hb dX7_number_167 rfl ?_
                    refine lv_iload_n hx hb dX7_number_168 rfl (lv_at hl 5 rfl) ?_
                    refine lv_i2l (v := (Int32.toInt64 p1)) hx hb dX7_number_169 rfl ?_
                    refine gS (As := [.long (Int32.toInt64 (-x6)), .long (Int32.toInt64 p0), .long (Int32.toInt64 p1)]) (rest := []) (wr := [(m0, .inr (10, [.int rz, .ref m1, .ref m2, .ref m3, .int hf, .int hs, .ref m6, .int len, .int ec, .int ep, .int y0_10, .int bg, .int bad, .ref m13, .ref m14, .int plc, .int sta, .ref m17, .ref m18, .ref m19, .int shm])), (m6, .inl (G.2.1.1, 600, .inl text))]) (ws' := [(m0, .inr (10, [.int rz, .ref m1, .ref m2, .ref m3, .int hf, .int hs, .ref m6, .int len, .int ec, .int ep, .int y0_10, .int bg, .int bad, .ref m13, .ref m14, .int plc, .int sta, .ref m17, .ref m18, .ref m19, .int shm])), (m6, .inl (G.2.1.1, 600, .inl text))]) F (c_X7_in l G (Int32.toInt64 (-x6)) (Int32.toInt64 p0) (Int32.toInt64 p1)) okS_X7_in k_ml_X7_81 rfl rfl ⟨Nat.le_of_ble_eq_true rfl, Nat.le_of_ble_eq_true rfl⟩ hN hK hP hD hS hA [] [0, 1] [0, 1] (by decide) rfl rfl (by decide) (by decide) (by decide) rfl rfl rfl hl.1 (Nat.le_of_ble_eq_true rfl) dX7_number_170 ⟨Nat.le_refl _, Nat.le_refl _⟩ (fun H locs hP hD hS => ?_)
                    refine lv_if_ne (tgt := 183) hx hb dX7_number_173 (by decide) (fun c_32 => ?_) (fun c_32 => ?_)
                    · skip
                      refine lv_aload_n hx hb dX7_number_183 rfl (lv_at hl 3 rfl) ?_
                      refine va_get (D := G.1) (ci := 10) (v := .int bad) (C := RX7) (T := TX7) (N := 21) hx hb hts in_X7 hown hK hP 0 rfl rfl 12 (by decide) (hts _ k_fl_X7_109) (fun _ h9 => h9) rfl dX7_number_184 ?_
                      refine lv_if_eq (tgt := 194) hx hb dX7_number_187 (by decide) (fun c_33 => ?_) (fun c_33 => ?_)
                      · skip
                        refine lv_iload hx hb dX7_number_194 (lv_at hl 0 rfl) ?_
                        have ef : (f_X7_number len ec ep pos bad text p0 p1 p2) = ((-x6), ec, ep, y0_10, bad) := (hO.trans (((if_neg c_2).trans ((if_neg c_8).trans ((if_pos c_22).trans ((if_neg c_23).trans ((if_pos c_31).trans (if_neg c_32))))))))
                        exact gRetI F hr hlocks hK hP hD hS (by rw [ef]) (by rw [ef]) (Nat.le_of_ble_eq_true rfl) (Nat.le_of_ble_eq_true rfl) dX7_number_196
                      · first | exact absurd c_1 c_33 | exact absurd c_33 c_1
                    · skip
                      refine lv_aload_n hx hb dX7_number_176 rfl (lv_at hl 3 rfl) ?_
                      refine lv_iconst (v := 2) hx hb dX7_number_177 (by decide) ?_
                      refine lv_iload hx hb dX7_number_178 (lv_at hl 1 rfl) ?_
                      refine gV (As := [.int 2, .int ((f_X7_here len pos text).2)]) (rest := []) (wr := [(m6, .inl (G.2.1.1, 600, .inl text))]) (ws' := [(m0, .inr (10, [.int rz, .ref m1, .ref m2, .ref m3, .int hf, .int hs, .ref m6, .int len, .int ((f_X7_wrong ec ep bad 2 ((f_X7_here len pos text).2)).1), .int ((f_X7_wrong ec ep bad 2 ((f_X7_here len pos text).2)).2.1), .int y0_10, .int bg, .int ((f_X7_wrong ec ep bad 2 ((f_X7_here len pos text).2)).2.2), .ref m13, .ref m14, .int plc, .int sta, .ref m17, .ref m18, .ref m19, .int shm])), (m6, .inl (G.2.1.1, 600, .inl text))]) F (c_X7_wrong l G m0 m1 m2 m3 m6 m13 m14 m17 m18 m19 rz hf hs len ec ep y0_10 bg bad plc sta shm 2 ((f_X7_here len pos text).2)) okV_X7_wrong k_ml_X7_137 rfl rfl ⟨Nat.le_of_ble_eq_true rfl, Nat.le_of_ble_eq_true rfl⟩ hN hK hP hD hS hA [0] [1] [1, 0] (by decide) rfl rfl (by decide) (by decide) (by decide) rfl (q0 := 0) rfl rfl rfl rfl hl.1 (Nat.le_of_ble_eq_true rfl) dX7_number_180 ⟨Nat.le_refl _, Nat.le_refl _⟩ (fun H locs hP hD hS => ?_)
                      refine lv_aload_n hx hb dX7_number_183 rfl (lv_at hl 3 rfl) ?_
                      refine va_get (D := G.1) (ci := 10) (v := .int ((f_X7_wrong ec ep bad 2 ((f_X7_here len pos text).2)).2.2)) (C := RX7) (T := TX7) (N := 21) hx hb hts in_X7 hown hK hP 0 rfl rfl 12 (by decide) (hts _ k_fl_X7_109) (fun _ h9 => h9) rfl dX7_number_184 ?_
                      refine lv_if_eq (tgt := 194) hx hb dX7_number_187 (by decide) (fun c_34 => ?_) (fun c_34 => ?_)
                      · skip
                        refine lv_iload hx hb dX7_number_194 (lv_at hl 0 rfl) ?_
                        have ef : (f_X7_number len ec ep pos bad text p0 p1 p2) = ((-x6), (f_X7_wrong ec ep bad 2 ((f_X7_here len pos text).2)).1, (f_X7_wrong ec ep bad 2 ((f_X7_here len pos text).2)).2.1, y0_10, (f_X7_wrong ec ep bad 2 ((f_X7_here len pos text).2)).2.2) := (hO.trans (((if_neg c_2).trans ((if_neg c_8).trans ((if_pos c_22).trans ((if_neg c_23).trans ((if_pos c_31).trans ((if_pos c_32).trans (if_pos c_34)))))))))
                        exact gRetI F hr hlocks hK hP hD hS (by rw [ef]) (by rw [ef]) (Nat.le_of_ble_eq_true rfl) (Nat.le_of_ble_eq_true rfl) dX7_number_196
                      · skip
                        refine lv_iconst (v := 0) hx hb dX7_number_190 (by decide) ?_
                        refine lv_goto (tgt := 196) hx hb dX7_number_191 (by decide) ?_
                        have ef : (f_X7_number len ec ep pos bad text p0 p1 p2) = (0, (f_X7_wrong ec ep bad 2 ((f_X7_here len pos text).2)).1, (f_X7_wrong ec ep bad 2 ((f_X7_here len pos text).2)).2.1, y0_10, (f_X7_wrong ec ep bad 2 ((f_X7_here len pos text).2)).2.2) := (hO.trans (((if_neg c_2).trans ((if_neg c_8).trans ((if_pos c_22).trans ((if_neg c_23).trans ((if_pos c_31).trans ((if_pos c_32).trans (if_neg c_34)))))))))
                        exact gRetI F hr hlocks hK hP hD hS (by rw [ef]) (by rw [ef]) (Nat.le_of_ble_eq_true rfl) (Nat.le_of_ble_eq_true rfl) dX7_number_196
                  · skip
                    refine lv_aload_n hx hb dX7_number_153 rfl (lv_at hl 3 rfl) ?_
                    refine lv_iconst (v := 1) hx hb dX7_number_154 (by decide) ?_
                    refine lv_iload hx hb dX7_number_155 (lv_at hl 1 rfl) ?_
                    refine gV (As := [.int 1, .int ((f_X7_here len pos text).2)]) (rest := []) (wr := [(m6, .inl (G.2.1.1, 600, .inl text))]) (ws' := [(m0, .inr (10, [.int rz, .ref m1, .ref m2, .ref m3, .int hf, .int hs, .ref m6, .int len, .int ((f_X7_wrong ec ep bad 1 ((f_X7_here len pos text).2)).1), .int ((f_X7_wrong ec ep bad 1 ((f_X7_here len pos text).2)).2.1), .int y0_10, .int bg, .int ((f_X7_wrong ec ep bad 1 ((f_X7_here len pos text).2)).2.2), .ref m13, .ref m14, .int plc, .int sta, .ref m17, .ref m18, .ref m19, .int shm])), (m6, .inl (G.2.1.1, 600, .inl text))]) F (c_X7_wrong l G m0 m1 m2 m3 m6 m13 m14 m17 m18 m19 rz hf hs len ec ep y0_10 bg bad plc sta shm 1 ((f_X7_here len pos text).2)) okV_X7_wrong k_ml_X7_137 rfl rfl ⟨Nat.le_of_ble_eq_true rfl, Nat.le_of_ble_eq_true rfl⟩ hN hK hP hD hS hA [0] [1] [1, 0] (by decide) rfl rfl (by decide) (by decide) (by decide) rfl (q0 := 0) rfl rfl rfl rfl hl.1 (Nat.le_of_ble_eq_true rfl) dX7_number_157 ⟨Nat.le_refl _, Nat.le_refl _⟩ (fun H locs hP hD hS => ?_)
                    refine lv_goto (tgt := 183) hx hb dX7_number_160 (by decide) ?_
                    refine lv_aload_n hx hb dX7_number_183 rfl (lv_at hl 3 rfl) ?_
                    refine va_get (D := G.1) (ci := 10) (v := .int ((f_X7_wrong ec ep bad 1 ((f_X7_here len pos text).2)).2.2)) (C := RX7) (T := TX7) (N := 21) hx hb hts in_X7 hown hK hP 0 rfl rfl 12 (by decide) (hts _ k_fl_X7_109) (fun _ h9 => h9) rfl dX7_number_184 ?_
                    refine lv_if_eq (tgt := 194) hx hb dX7_number_187 (by decide) (fun c_35 => ?_) (fun c_35 => ?_)
                    · skip
                      refine lv_iload hx hb dX7_number_194 (lv_at hl 0 rfl) ?_
                      have ef : (f_X7_number len ec ep pos bad text p0 p1 p2) = ((-x6), (f_X7_wrong ec ep bad 1 ((f_X7_here len pos text).2)).1, (f_X7_wrong ec ep bad 1 ((f_X7_here len pos text).2)).2.1, y0_10, (f_X7_wrong ec ep bad 1 ((f_X7_here len pos text).2)).2.2) := (hO.trans (((if_neg c_2).trans ((if_neg c_8).trans ((if_pos c_22).trans ((if_neg c_23).trans ((if_neg c_31).trans (if_pos c_35))))))))
                      exact gRetI F hr hlocks hK hP hD hS (by rw [ef]) (by rw [ef]) (Nat.le_of_ble_eq_true rfl) (Nat.le_of_ble_eq_true rfl) dX7_number_196
                    · skip
                      refine lv_iconst (v := 0) hx hb dX7_number_190 (by decide) ?_
                      refine lv_goto (tgt := 196) hx hb dX7_number_191 (by decide) ?_
                      have ef : (f_X7_number len ec ep pos bad text p0 p1 p2) = (0, (f_X7_wrong ec ep bad 1 ((f_X7_here len pos text).2)).1, (f_X7_wrong ec ep bad 1 ((f_X7_here len pos text).2)).2.1, y0_10, (f_X7_wrong ec ep bad 1 ((f_X7_here len pos text).2)).2.2) := (hO.trans (((if_neg c_2).trans ((if_neg c_8).trans ((if_pos c_22).trans ((if_neg c_23).trans ((if_neg c_31).trans (if_neg c_35))))))))
                      exact gRetI F hr hlocks hK hP hD hS (by rw [ef]) (by rw [ef]) (Nat.le_of_ble_eq_true rfl) (Nat.le_of_ble_eq_true rfl) dX7_number_196
            · skip
              refine lv_aload_n hx hb dX7_number_72 rfl (lv_at hl 3 rfl) ?_
              refine va_get (D := G.1) (ci := 10) (v := .int y0_10) (C := RX7) (T := TX7) (N := 21) hx hb hts in_X7 hown hK hP 0 rfl rfl 10 (by decide) (hts _ k_fl_X7_106) (fun _ h9 => h9) rfl dX7_number_73 ?_
              refine lv_iload hx hb dX7_number_76 (lv_at hl 1 rfl) ?_
              refine lv_isub hx hb dX7_number_78 ?_
              refine lv_bipush (v := 6) hx hb dX7_number_79 (by decide) ?_
              refine lv_icmp_ge (tgt := 105) hx hb dX7_number_81 (by decide) (fun c_36 => ?_) (fun c_36 => ?_)
              · skip
                refine lv_iload hx hb dX7_number_105 (lv_at hl 0 rfl) ?_
                refine lv_istore (lv' := [(6, .int x6), (5, .int ((f_X7_here len pos text).2)), (4, .int (f_X7_in (Int32.toInt64 ((f_X7_here len pos text).1)) 48 57)), (0, .ref m0), (1, .int p0), (2, .int p1), (3, .int p2)]) hx hb dX7_number_107 hl (by decide) rfl (fun ls hl => ?_)
                refine lv_aload_n hx hb dX7_number_109 rfl (lv_at hl 3 rfl) ?_
                refine lv_dup hx hb dX7_number_110 rfl ?_
                refine va_get (D := G.1) (ci := 10) (v := .int y0_10) (C := RX7) (T := TX7) (N := 21) hx hb hts in_X7 hown hK hP 0 rfl rfl 10 (by decide) (hts _ k_fl_X7_106) (fun _ h9 => h9) rfl dX7_number_111 ?_
                refine lv_iconst (v := 1) hx hb dX7_number_114 (by decide) ?_
                refine lv_iadd hx hb dX7_number_115 ?_
                refine va_put (D := G.1) (ci := 10) (v := .int (y0_10 + 1)) (ty := .int) (C := RX7) (T := TX7) (N := 21) hx hb hts in_X7 tyX7 tyX7_ok nmX7 hown hK hP hD hS 0 rfl rfl 10 (by decide) (hts _ k_fl_X7_106) (fun _ h9 => h9) rfl (by decide +kernel) rfl rfl (Nat.le_of_ble_eq_true rfl) dX7_number_116 (fun H locs hP hD hS => ?_)
                replace hP : va_P G.1 vwCl [(m0, .inr (10, [.int rz, .ref m1, .ref m2, .ref m3, .int hf, .int hs, .ref m6, .int len, .int ec, .int ep, .int (y0_10 + 1), .int bg, .int bad, .ref m13, .ref m14, .int plc, .int sta, .ref m17, .ref m18, .ref m19, .int shm])), (m6, .inl (G.2.1.1, 600, .inl text))] H := hP
                replace hD : va_D A [(m0, .inr (10, [.int rz, .ref m1, .ref m2, .ref m3, .int hf, .int hs, .ref m6, .int len, .int ec, .int ep, .int (y0_10 + 1), .int bg, .int bad, .ref m13, .ref m14, .int plc, .int sta, .ref m17, .ref m18, .ref m19, .int shm])), (m6, .inl (G.2.1.1, 600, .inl text))] := hD
                refine lv_goto (tgt := 34) hx hb dX7_number_119 (by decide) ?_
                exact ih (y0_10 + 1) x6 (nxt_pos c_8 hI) (tok_mu c_8 hn) (hO.trans (((if_neg c_2).trans ((if_neg c_8).trans ((if_neg c_22).trans (if_pos c_36)))))) _ _ hP hD hS ls (lv_sub hl [0, 1, 2, 3, 4, 5, 6] rfl)
              · skip
                refine lv_bipush (v := 10) hx hb dX7_number_84 (by decide) ?_
                refine lv_iload hx hb dX7_number_86 (lv_at hl 0 rfl) ?_
                refine lv_imul hx hb dX7_number_88 ?_
                refine lv_aload_n hx hb dX7_number_89 rfl (lv_at hl 3 rfl) ?_
                refine va_get (D := G.1) (ci := 10) (v := .ref m6) (C := RX7) (T := TX7) (N := 21) hx hb hts in_X7 hown hK hP 0 rfl rfl 6 (by decide) (hts _ k_fl_X7_19) (fun _ h9 => h9) rfl dX7_number_90 ?_
                refine lv_aload_n hx hb dX7_number_93 rfl (lv_at hl 3 rfl) ?_
                refine va_get (D := G.1) (ci := 10) (v := .int y0_10) (C := RX7) (T := TX7) (N := 21) hx hb hts in_X7 hown hK hP 0 rfl rfl 10 (by decide) (hts _ k_fl_X7_106) (fun _ h9 => h9) rfl dX7_number_94 ?_
                refine va_iald hx hb hK hP 1 0 rfl rfl (by have qc_2 := in_ofI (a := 48) (b := 57) c_2 (by decide) (by decide); have qc_8 := c_8; (try rw [gI_le] at qc_8); have qc_22 := in_ofI (a := 48) (b := 57) c_22 (by decide) (by decide); have z2 : (6 : Int32).toInt = 6 := (by decide); (try have z4 := gI_sub (x := y0_10) (y := (f_X7_here len pos text).2) (by omega) (by omega)); have qc_36 := c_36; (try rw [gI_le] at qc_36); (try rw [vp_in_iff]); omega) dX7_number_97 ?_
                refine lv_iadd hx hb dX7_number_98 ?_
                refine lv_bipush (v := 48) hx hb dX7_number_99 (by decide) ?_
                refine lv_isub hx hb dX7_number_101 ?_
                refine lv_goto (tgt := 107) hx hb dX7_number_102 (by decide) ?_
                refine lv_istore (lv' := [(6, .int (((10 * x6) + (text (Int32.toNatClampNeg y0_10))) - 48)), (5, .int ((f_X7_here len pos text).2)), (4, .int (f_X7_in (Int32.toInt64 ((f_X7_here len pos text).1)) 48 57)), (0, .ref m0), (1, .int p0), (2, .int p1), (3, .int p2)]) hx hb dX7_number_107 hl (by decide) rfl (fun ls hl => ?_)
                refine lv_aload_n hx hb dX7_number_109 rfl (lv_at hl 3 rfl) ?_
                refine lv_dup hx hb dX7_number_110 rfl ?_
                refine va_get (D := G.1) (ci := 10) (v := .int y0_10) (C := RX7) (T := TX7) (N := 21) hx hb hts in_X7 hown hK hP 0 rfl rfl 10 (by decide) (hts _ k_fl_X7_106) (fun _ h9 => h9) rfl dX7_number_111 ?_
                refine lv_iconst (v := 1) hx hb dX7_number_114 (by decide) ?_
                refine lv_iadd hx hb dX7_number_115 ?_
                refine va_put (D := G.1) (ci := 10) (v := .int (y0_10 + 1)) (ty := .int) (C := RX7) (T := TX7) (N := 21) hx hb hts in_X7 tyX7 tyX7_ok nmX7 hown hK hP hD hS 0 rfl rfl 10 (by decide) (hts _ k_fl_X7_106) (fun _ h9 => h9) rfl (by decide +kernel) rfl rfl (Nat.le_of_ble_eq_true rfl) dX7_number_116 (fun H locs hP hD hS => ?_)
                replace hP : va_P G.1 vwCl [(m0, .inr (10, [.int rz, .ref m1, .ref m2, .ref m3, .int hf, .int hs, .ref m6, .int len, .int ec, .int ep, .int (y0_10 + 1), .int bg, .int bad, .ref m13, .ref m14, .int plc, .int sta, .ref m17, .ref m18, .ref m19, .int shm])), (m6, .inl (G.2.1.1, 600, .inl text))] H := hP
                replace hD : va_D A [(m0, .inr (10, [.int rz, .ref m1, .ref m2, .ref m3, .int hf, .int hs, .ref m6, .int len, .int ec, .int ep, .int (y0_10 + 1), .int bg, .int bad, .ref m13, .ref m14, .int plc, .int sta, .ref m17, .ref m18, .ref m19, .int shm])), (m6, .inl (G.2.1.1, 600, .inl text))] := hD
                refine lv_goto (tgt := 34) hx hb dX7_number_119 (by decide) ?_
                exact ih (y0_10 + 1) (((10 * x6) + (text (Int32.toNatClampNeg y0_10))) - 48) (nxt_pos c_8 hI) (tok_mu c_8 hn) (hO.trans (((if_neg c_2).trans ((if_neg c_8).trans ((if_neg c_22).trans (if_neg c_36)))))) _ _ hP hD hS ls (lv_sub hl [0, 1, 2, 3, 4, 5, 6] rfl)
    exact loop_34 701 ((f_X7_here len pos text).2) 0 (by have q := here_rng (text := text) hlen hpos; exact q.1) (by have q := here_rng (text := text) hlen hpos; omega) (if_pos c_1) _ _ hP hD hS ls (lv_sub hl [0, 1, 2, 3, 4, 5, 6] rfl)
  · skip
    refine lv_iconst (v := 0) hx hb dX7_number_7 (by decide) ?_
    have ef : (f_X7_number len ec ep pos bad text p0 p1 p2) = (0, ec, ep, pos, bad) := (if_neg c_1)
    exact gRetI F hr hlocks hK hP hD hS (by rw [ef]) (by rw [ef]) (Nat.le_of_ble_eq_true rfl) (Nat.le_of_ble_eq_true rfl) dX7_number_8
theorem okV_X7_number : gOkV yX7_number cX7_number 7 (some .int) 3 := ⟨⟨k_im_X7_number, k_se_X7_number, k_in_X7, k_cd_X7_number⟩, by decide, by decide, by decide +kernel⟩
