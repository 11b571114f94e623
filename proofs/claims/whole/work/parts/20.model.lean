theorem g1000 {k : Nat} (h : k < 1001) : ¬ (1000 : Int32) - nI k < 0 := by
  have z := nI_toInt (n := k) (by omega)
  rw [gI_lt, Int32.toInt_sub]
  simp only [Int32.reduceToInt, Int.bmod]
  omega
theorem g1000s (k : Nat) : (1000 : Int32) - nI k + Int32.ofInt (-1) = 1000 - nI (k + 1) := by
  rw [← nI_1]
  apply gI_ext
  have e : (Int32.ofInt (-1)).toInt = -1 := by decide
  simp only [Int32.toInt_add, Int32.toInt_sub, e, Int32.reduceToInt, Int.bmod]
  omega
def f_X7_thrown (rz : Int32) : Int32 :=
  rz
set_option maxRecDepth 100000 in
set_option maxHeartbeats 4000000 in
theorem c_X7_thrown (l : Launch) (G : gG) (m0 : Nat) (m1 : Nat) (m2 : Nat) (m3 : Nat) (m6 : Nat) (m13 : Nat) (m14 : Nat) (m17 : Nat) (m18 : Nat) (m19 : Nat) (rz : Int32) (hf : Int32) (hs : Int32) (len : Int32) (ec : Int32) (ep : Int32) (pos : Int32) (bg : Int32) (bad : Int32) (plc : Int32) (sta : Int32) (shm : Int32) : gM l G yX7_thrown cX7_thrown 1 (some .int) { frames := 0, cells := 0, slots := 0, locals := 0 } [.ref m0] [(m0, .inr (10, [.int rz, .ref m1, .ref m2, .ref m3, .int hf, .int hs, .ref m6, .int len, .int ec, .int ep, .int pos, .int bg, .int bad, .ref m13, .ref m14, .int plc, .int sta, .ref m17, .ref m18, .ref m19, .int shm]))] (some (.int (f_X7_thrown rz))) [(m0, .inr (10, [.int rz, .ref m1, .ref m2, .ref m3, .int hf, .int hs, .ref m6, .int len, .int ec, .int ep, .int pos, .int bg, .int bad, .ref m13, .ref m14, .int plc, .int sta, .ref m17, .ref m18, .ref m19, .int shm]))] 0 0 := by
  refine gBegin (by decide +kernel) (Nat.le_of_ble_eq_true rfl) (fun p e s m args below meth c A F hr hlocks hname hN hK hP hD hA hS ls hl => ?_)
  obtain ⟨hx, hb, hml, hown, hts⟩ := id F
  replace hP : va_P G.1 vwCl [(m0, .inr (10, [.int rz, .ref m1, .ref m2, .ref m3, .int hf, .int hs, .ref m6, .int len, .int ec, .int ep, .int pos, .int bg, .int bad, .ref m13, .ref m14, .int plc, .int sta, .ref m17, .ref m18, .ref m19, .int shm]))] s.heap := hP
  replace hl : lv_has ls 1 [(0, .ref m0)] := hl
  refine lv_aload_n hx hb dX7_thrown_0 rfl (lv_at hl 0 rfl) ?_
  refine va_get (D := G.1) (ci := 10) (v := .int rz) (C := RX7) (T := TX7) (N := 21) hx hb hts in_X7 hown hK hP 0 rfl rfl 0 (by decide) (hts _ k_fl_X7_76) (fun _ h9 => h9) rfl dX7_thrown_1 ?_
  exact gRetI F hr hlocks hK hP hD hS rfl rfl (Nat.le_of_ble_eq_true rfl) (Nat.le_of_ble_eq_true rfl) dX7_thrown_4
theorem okV_X7_thrown : gOkV yX7_thrown cX7_thrown 1 (some .int) 0 := ⟨⟨k_im_X7_thrown, k_se_X7_thrown, k_in_X7, k_cd_X7_thrown⟩, by decide, by decide, by decide +kernel⟩
def f_X7_in (p0 : Int64) (p1 : Int64) (p2 : Int64) : Int32 :=
  if p0 < p1 then
    0
  else
    if p2 < p0 then
      0
    else
      1
set_option maxRecDepth 100000 in
set_option maxHeartbeats 4000000 in
theorem c_X7_in (l : Launch) (G : gG) (p0 : Int64) (p1 : Int64) (p2 : Int64) : gM l G yX7_in cX7_in 6 (some .boolean) { frames := 0, cells := 0, slots := 0, locals := 0 } [.long p0, .long p1, .long p2] [] (some (.int (f_X7_in p0 p1 p2))) [] 0 0 := by
  refine gBegin (by decide +kernel) (Nat.le_of_ble_eq_true rfl) (fun p e s m args below meth c A F hr hlocks hname hN hK hP hD hA hS ls hl => ?_)
  obtain ⟨hx, hb, hml, hown, hts⟩ := id F
  replace hP : va_P G.1 vwCl [] s.heap := hP
  replace hl : lv_has ls 6 [(0, .long p0), (2, .long p1), (4, .long p2)] := hl
  refine lv_lload_n hx hb dX7_in_0 rfl (lv_at hl 0 rfl) ?_
  refine lv_lload_n hx hb dX7_in_1 rfl (lv_at hl 1 rfl) ?_
  refine gLc_lt (tgt := 17) hx hb dX7_in_2 dX7_in_3 (by decide) (fun c_1 => ?_) (fun c_1 => ?_)
  · skip
    refine lv_iconst (v := 0) hx hb dX7_in_17 (by decide) ?_
    have ef : (f_X7_in p0 p1 p2) = 0 := (if_pos c_1)
    exact gRetZ F hr hlocks hK hP hD hS rfl (by rw [ef]) rfl (Nat.le_of_ble_eq_true rfl) (Nat.le_of_ble_eq_true rfl) dX7_in_18
  · skip
    refine lv_lload_n hx hb dX7_in_6 rfl (lv_at hl 0 rfl) ?_
    refine lv_lload hx hb dX7_in_7 (lv_at hl 2 rfl) ?_
    refine gLc_gt (tgt := 17) hx hb dX7_in_9 dX7_in_10 (by decide) (fun c_2 => ?_) (fun c_2 => ?_)
    · skip
      refine lv_iconst (v := 0) hx hb dX7_in_17 (by decide) ?_
      have ef : (f_X7_in p0 p1 p2) = 0 := ((if_neg c_1).trans (if_pos c_2))
      exact gRetZ F hr hlocks hK hP hD hS rfl (by rw [ef]) rfl (Nat.le_of_ble_eq_true rfl) (Nat.le_of_ble_eq_true rfl) dX7_in_18
    · skip
      refine lv_iconst (v := 1) hx hb dX7_in_13 (by decide) ?_
      refine lv_goto (tgt := 18) hx hb dX7_in_14 (by decide) ?_
      have ef : (f_X7_in p0 p1 p2) = 1 := ((if_neg c_1).trans (if_neg c_2))
      exact gRetZ F hr hlocks hK hP hD hS rfl (by rw [ef]) rfl (Nat.le_of_ble_eq_true rfl) (Nat.le_of_ble_eq_true rfl) dX7_in_18
theorem okS_X7_in : gOkS yX7_in cX7_in 6 (some .boolean) 3 := ⟨⟨k_st_X7_in, k_in_X7, k_cd_X7_in⟩, by decide, by decide, by decide +kernel⟩
theorem in_of {v l h : Int64} (c : ¬ f_X7_in v l h = 0) : l.toInt ≤ v.toInt ∧ v.toInt ≤ h.toInt := by
  unfold f_X7_in at c
  by_cases h1 : v < l
  · rw [if_pos h1] at c; exact absurd rfl c
  · rw [if_neg h1] at c
    by_cases h2 : h < v
    · rw [if_pos h2] at c; exact absurd rfl c
    · rw [gL_lt] at h1 h2; omega
theorem in_not {v l h : Int64} (c : f_X7_in v l h = 0) : v.toInt < l.toInt ∨ h.toInt < v.toInt := by
  unfold f_X7_in at c
  by_cases h1 : v < l
  · rw [gL_lt] at h1; exact Or.inl h1
  · rw [if_neg h1] at c
    by_cases h2 : h < v
    · rw [gL_lt] at h2; exact Or.inr h2
    · rw [if_neg h2] at c; exact absurd c (by decide)
theorem in_ofI {p : Int32} {l h : Int64} {a b : Int} (c : ¬ f_X7_in (Int32.toInt64 p) l h = 0) (hl : l.toInt = a) (hh : h.toInt = b) : a ≤ p.toInt ∧ p.toInt ≤ b := by
  have q := in_of c
  rw [gI_l] at q
  omega
theorem in_notI {p : Int32} {l h : Int64} {a b : Int} (c : f_X7_in (Int32.toInt64 p) l h = 0) (hl : l.toInt = a) (hh : h.toInt = b) : p.toInt < a ∨ b < p.toInt := by
  have q := in_not c
  rw [gI_l] at q
  omega
def f_X7_isTank (p0 : Int32) : Int32 :=
  (f_X7_in (Int32.toInt64 p0) 0 7)
set_option maxRecDepth 100000 in
set_option maxHeartbeats 4000000 in
theorem c_X7_isTank (l : Launch) (G : gG) (p0 : Int32) : gM l G yX7_isTank cX7_isTank 1 (some .boolean) { frames := 1, cells := 0, slots := 0, locals := 25 } [.int p0] [] (some (.int (f_X7_isTank p0))) [] 0 0 := by
  refine gBegin (by decide +kernel) (Nat.le_of_ble_eq_true rfl) (fun p e s m args below meth c A F hr hlocks hname hN hK hP hD hA hS ls hl => ?_)
  obtain ⟨hx, hb, hml, hown, hts⟩ := id F
  replace hP : va_P G.1 vwCl [] s.heap := hP
  replace hl : lv_has ls 1 [(0, .int p0)] := hl
  refine lv_iload_n hx hb dX7_isTank_0 rfl (lv_at hl 0 rfl) ?_
  refine lv_i2l (v := (Int32.toInt64 p0)) hx hb dX7_isTank_1 rfl ?_
  refine lv_lconst (v := 0) hx hb dX7_isTank_2 (by decide) ?_
  refine lv_ldc2 (v := 7) hx hb hown (hts _ k_lc_X7_79) dX7_isTank_3 ?_
  refine gS (As := [.long (Int32.toInt64 p0), .long 0, .long 7]) (rest := []) (wr := []) (ws' := []) F (c_X7_in l G (Int32.toInt64 p0) 0 7) okS_X7_in k_ml_X7_81 rfl rfl ⟨Nat.le_of_ble_eq_true rfl, Nat.le_of_ble_eq_true rfl⟩ hN hK hP hD hS hA [] [] [] (by decide) rfl rfl (by decide) (by decide) (by decide) rfl rfl rfl hl.1 (Nat.le_of_ble_eq_true rfl) dX7_isTank_6 ⟨Nat.le_refl _, Nat.le_refl _⟩ (fun H locs hP hD hS => ?_)
  exact gRetZ F hr hlocks hK hP hD hS (gNz (by unfold f_X7_in; split; exact g01_0; split; exact g01_0; exact g01_1)) rfl rfl (Nat.le_of_ble_eq_true rfl) (Nat.le_of_ble_eq_true rfl) dX7_isTank_9
theorem okS_X7_isTank : gOkS yX7_isTank cX7_isTank 1 (some .boolean) 1 := ⟨⟨k_st_X7_isTank, k_in_X7, k_cd_X7_isTank⟩, by decide, by decide, by decide +kernel⟩
theorem in_01 (v l h : Int64) : g01 (f_X7_in v l h) := by unfold f_X7_in; split; exact g01_0; split; exact g01_0; exact g01_1
theorem tank_of {p : Int32} (c : ¬ f_X7_isTank p = 0) : 0 ≤ p.toInt ∧ p.toInt < 8 := by
  have h := in_of c
  rw [gI_l] at h
  have h1 : (0 : Int64).toInt = 0 := by decide
  have h2 : (7 : Int64).toInt = 7 := by decide
  omega
theorem tank_not {p : Int32} (c : f_X7_isTank p = 0) : p.toInt < 0 ∨ 8 ≤ p.toInt := by
  have h := in_not c
  rw [gI_l] at h
  have h1 : (0 : Int64).toInt = 0 := by decide
  have h2 : (7 : Int64).toInt = 7 := by decide
  omega
def f_X7_isLocation (p0 : Int32) (p1 : Int32) : Int32 :=
  if (f_X7_isTank p0) = 0 then
    0
  else
    if (f_X7_in (Int32.toInt64 p1) 0 31) = 0 then
      0
    else
      1
set_option maxRecDepth 100000 in
set_option maxHeartbeats 4000000 in
theorem c_X7_isLocation (l : Launch) (G : gG) (p0 : Int32) (p1 : Int32) : gM l G yX7_isLocation cX7_isLocation 2 (some .boolean) { frames := 2, cells := 0, slots := 0, locals := 45 } [.int p0, .int p1] [] (some (.int (f_X7_isLocation p0 p1))) [] 0 0 := by
  refine gBegin (by decide +kernel) (Nat.le_of_ble_eq_true rfl) (fun p e s m args below meth c A F hr hlocks hname hN hK hP hD hA hS ls hl => ?_)
  obtain ⟨hx, hb, hml, hown, hts⟩ := id F
  replace hP : va_P G.1 vwCl [] s.heap := hP
  replace hl : lv_has ls 2 [(0, .int p0), (1, .int p1)] := hl
  refine lv_iload_n hx hb dX7_isLocation_0 rfl (lv_at hl 0 rfl) ?_
  refine gS (As := [.int p0]) (rest := []) (wr := []) (ws' := []) F (c_X7_isTank l G p0) okS_X7_isTank k_ml_X7_85 rfl rfl ⟨Nat.le_of_ble_eq_true rfl, Nat.le_of_ble_eq_true rfl⟩ hN hK hP hD hS hA [] [] [] (by decide) rfl rfl (by decide) (by decide) (by decide) rfl rfl rfl hl.1 (Nat.le_of_ble_eq_true rfl) dX7_isLocation_1 ⟨Nat.le_refl _, Nat.le_refl _⟩ (fun H locs hP hD hS => ?_)
  refine lv_if_eq (tgt := 23) hx hb dX7_isLocation_4 (by decide) (fun c_1 => ?_) (fun c_1 => ?_)
  · skip
    refine lv_iconst (v := 0) hx hb dX7_isLocation_23 (by decide) ?_
    have ef : (f_X7_isLocation p0 p1) = 0 := (if_pos c_1)
    exact gRetZ F hr hlocks hK hP hD hS rfl (by rw [ef]) rfl (Nat.le_of_ble_eq_true rfl) (Nat.le_of_ble_eq_true rfl) dX7_isLocation_24
  · skip
    refine lv_iload_n hx hb dX7_isLocation_7 rfl (lv_at hl 1 rfl) ?_
    refine lv_i2l (v := (Int32.toInt64 p1)) hx hb dX7_isLocation_8 rfl ?_
    refine lv_lconst (v := 0) hx hb dX7_isLocation_9 (by decide) ?_
    refine lv_ldc2 (v := 31) hx hb hown (hts _ k_lc_X7_89) dX7_isLocation_10 ?_
    refine gS (As := [.long (Int32.toInt64 p1), .long 0, .long 31]) (rest := []) (wr := []) (ws' := []) F (c_X7_in l G (Int32.toInt64 p1) 0 31) okS_X7_in k_ml_X7_81 rfl rfl ⟨Nat.le_of_ble_eq_true rfl, Nat.le_of_ble_eq_true rfl⟩ hN hK hP hD hS hA [] [] [] (by decide) rfl rfl (by decide) (by decide) (by decide) rfl rfl rfl hl.1 (Nat.le_of_ble_eq_true rfl) dX7_isLocation_13 ⟨Nat.le_refl _, Nat.le_refl _⟩ (fun H locs hP hD hS => ?_)
    refine lv_if_eq (tgt := 23) hx hb dX7_isLocation_16 (by decide) (fun c_2 => ?_) (fun c_2 => ?_)
    · skip
      refine lv_iconst (v := 0) hx hb dX7_isLocation_23 (by decide) ?_
      have ef : (f_X7_isLocation p0 p1) = 0 := ((if_neg c_1).trans (if_pos c_2))
      exact gRetZ F hr hlocks hK hP hD hS rfl (by rw [ef]) rfl (Nat.le_of_ble_eq_true rfl) (Nat.le_of_ble_eq_true rfl) dX7_isLocation_24
    · skip
      refine lv_iconst (v := 1) hx hb dX7_isLocation_19 (by decide) ?_
      refine lv_goto (tgt := 24) hx hb dX7_isLocation_20 (by decide) ?_
      have ef : (f_X7_isLocation p0 p1) = 1 := ((if_neg c_1).trans (if_neg c_2))
      exact gRetZ F hr hlocks hK hP hD hS rfl (by rw [ef]) rfl (Nat.le_of_ble_eq_true rfl) (Nat.le_of_ble_eq_true rfl) dX7_isLocation_24
theorem okS_X7_isLocation : gOkS yX7_isLocation cX7_isLocation 2 (some .boolean) 2 := ⟨⟨k_st_X7_isLocation, k_in_X7, k_cd_X7_isLocation⟩, by decide, by decide, by decide +kernel⟩
theorem loc_of {p q : Int32} (c : ¬ f_X7_isLocation p q = 0) : (0 ≤ p.toInt ∧ p.toInt < 8) ∧ 0 ≤ q.toInt ∧ q.toInt < 32 := by
  unfold f_X7_isLocation at c
  by_cases h1 : f_X7_isTank p = 0
  · rw [if_pos h1] at c; exact absurd rfl c
  · rw [if_neg h1] at c
    have ht := tank_of h1
    by_cases h2 : f_X7_in (Int32.toInt64 q) 0 31 = 0
    · rw [if_pos h2] at c; exact absurd rfl c
    · have h := in_of h2
      rw [gI_l] at h
      have h1 : (0 : Int64).toInt = 0 := by decide
      have h2 : (31 : Int64).toInt = 31 := by decide
      omega
theorem loc_not {p q : Int32} (c : f_X7_isLocation p q = 0) : (p.toInt < 0 ∨ 8 ≤ p.toInt) ∨ (q.toInt < 0 ∨ 32 ≤ q.toInt) := by
  unfold f_X7_isLocation at c
  by_cases h1 : f_X7_isTank p = 0
  · exact Or.inl (tank_not h1)
  · rw [if_neg h1] at c
    by_cases h2 : f_X7_in (Int32.toInt64 q) 0 31 = 0
    · have h := in_not h2
      rw [gI_l] at h
      have h1 : (0 : Int64).toInt = 0 := by decide
      have h2 : (31 : Int64).toInt = 31 := by decide
      omega
    · rw [if_neg h2] at c; exact absurd c (by decide)
def f_X7_fails (p0 : Int32) : Int32 × Int32 :=
  (0, p0)
set_option maxRecDepth 100000 in
set_option maxHeartbeats 4000000 in
theorem c_X7_fails (l : Launch) (G : gG) (m0 : Nat) (m1 : Nat) (m2 : Nat) (m3 : Nat) (m6 : Nat) (m13 : Nat) (m14 : Nat) (m17 : Nat) (m18 : Nat) (m19 : Nat) (rz : Int32) (hf : Int32) (hs : Int32) (len : Int32) (ec : Int32) (ep : Int32) (pos : Int32) (bg : Int32) (bad : Int32) (plc : Int32) (sta : Int32) (shm : Int32) (p0 : Int32) : gM l G yX7_fails cX7_fails 2 (some .int) { frames := 0, cells := 0, slots := 0, locals := 0 } [.ref m0, .int p0] [(m0, .inr (10, [.int rz, .ref m1, .ref m2, .ref m3, .int hf, .int hs, .ref m6, .int len, .int ec, .int ep, .int pos, .int bg, .int bad, .ref m13, .ref m14, .int plc, .int sta, .ref m17, .ref m18, .ref m19, .int shm]))] (some (.int ((f_X7_fails p0).1))) [(m0, .inr (10, [.int ((f_X7_fails p0).2), .ref m1, .ref m2, .ref m3, .int hf, .int hs, .ref m6, .int len, .int ec, .int ep, .int pos, .int bg, .int bad, .ref m13, .ref m14, .int plc, .int sta, .ref m17, .ref m18, .ref m19, .int shm]))] 0 0 := by
  refine gBegin (by decide +kernel) (Nat.le_of_ble_eq_true rfl) (fun p e s m args below meth c A F hr hlocks hname hN hK hP hD hA hS ls hl => ?_)
  obtain ⟨hx, hb, hml, hown, hts⟩ := id F
  replace hP : va_P G.1 vwCl [(m0, .inr (10, [.int rz, .ref m1, .ref m2, .ref m3, .int hf, .int hs, .ref m6, .int len, .int ec, .int ep, .int pos, .int bg, .int bad, .ref m13, .ref m14, .int plc, .int sta, .ref m17, .ref m18, .ref m19, .int shm]))] s.heap := hP
  replace hl : lv_has ls 2 [(0, .ref m0), (1, .int p0)] := hl
  refine lv_aload_n hx hb dX7_fails_0 rfl (lv_at hl 0 rfl) ?_
  refine lv_iload_n hx hb dX7_fails_1 rfl (lv_at hl 1 rfl) ?_
  refine va_put (D := G.1) (ci := 10) (v := .int p0) (ty := .int) (C := RX7) (T := TX7) (N := 21) hx hb hts in_X7 tyX7 tyX7_ok nmX7 hown hK hP hD hS 0 rfl rfl 0 (by decide) (hts _ k_fl_X7_76) (fun _ h9 => h9) rfl (by decide +kernel) rfl rfl (Nat.le_of_ble_eq_true rfl) dX7_fails_2 (fun H locs hP hD hS => ?_)
  replace hP : va_P G.1 vwCl [(m0, .inr (10, [.int p0, .ref m1, .ref m2, .ref m3, .int hf, .int hs, .ref m6, .int len, .int ec, .int ep, .int pos, .int bg, .int bad, .ref m13, .ref m14, .int plc, .int sta, .ref m17, .ref m18, .ref m19, .int shm]))] H := hP
  replace hD : va_D A [(m0, .inr (10, [.int p0, .ref m1, .ref m2, .ref m3, .int hf, .int hs, .ref m6, .int len, .int ec, .int ep, .int pos, .int bg, .int bad, .ref m13, .ref m14, .int plc, .int sta, .ref m17, .ref m18, .ref m19, .int shm]))] := hD
  refine lv_iconst (v := 0) hx hb dX7_fails_5 (by decide) ?_
  exact gRetI F hr hlocks hK hP hD hS rfl rfl (Nat.le_of_ble_eq_true rfl) (Nat.le_of_ble_eq_true rfl) dX7_fails_6
theorem okV_X7_fails : gOkV yX7_fails cX7_fails 2 (some .int) 1 := ⟨⟨k_im_X7_fails, k_se_X7_fails, k_in_X7, k_cd_X7_fails⟩, by decide, by decide, by decide +kernel⟩
def f_X7_floor (p0 : Int32) (p1 : Int32) : Int32 :=
  if (p0 % p1) = 0 then
    (p0 / p1)
  else
    if 0 ≤ p0 then
      if 0 ≤ p1 then
        (p0 / p1)
      else
        ((p0 / p1) - 1)
    else
      if 0 ≤ p1 then
        ((p0 / p1) - 1)
      else
        (p0 / p1)
set_option maxRecDepth 100000 in
set_option maxHeartbeats 4000000 in
theorem c_X7_floor (l : Launch) (G : gG) (p0 : Int32) (p1 : Int32) (hy : ¬ p1 = 0) : gM l G yX7_floor cX7_floor 3 (some .int) { frames := 0, cells := 0, slots := 0, locals := 0 } [.int p0, .int p1] [] (some (.int (f_X7_floor p0 p1))) [] 0 0 := by
  refine gBegin (by decide +kernel) (Nat.le_of_ble_eq_true rfl) (fun p e s m args below meth c A F hr hlocks hname hN hK hP hD hA hS ls hl => ?_)
  obtain ⟨hx, hb, hml, hown, hts⟩ := id F
  replace hP : va_P G.1 vwCl [] s.heap := hP
  replace hl : lv_has ls 3 [(0, .int p0), (1, .int p1)] := hl
  refine lv_iload_n hx hb dX7_floor_0 rfl (lv_at hl 0 rfl) ?_
  refine lv_iload_n hx hb dX7_floor_1 rfl (lv_at hl 1 rfl) ?_
  refine lv_idiv hx hb dX7_floor_2 hy ?_
  refine lv_istore_n (lv' := [(2, .int (p0 / p1)), (0, .int p0), (1, .int p1)]) hx hb dX7_floor_3 rfl hl (by decide) rfl (fun ls hl => ?_)
  refine lv_iload_n hx hb dX7_floor_4 rfl (lv_at hl 1 rfl) ?_
  refine lv_iload_n hx hb dX7_floor_5 rfl (lv_at hl 2 rfl) ?_
  refine gIrem hx hb dX7_floor_6 hy ?_
  refine lv_if_eq (tgt := 37) hx hb dX7_floor_7 (by decide) (fun c_1 => ?_) (fun c_1 => ?_)
  · skip
    refine lv_iload_n hx hb dX7_floor_37 rfl (lv_at hl 0 rfl) ?_
    have ef : (f_X7_floor p0 p1) = (p0 / p1) := (if_pos c_1)
    exact gRetI F hr hlocks hK hP hD hS (by rw [ef]) rfl (Nat.le_of_ble_eq_true rfl) (Nat.le_of_ble_eq_true rfl) dX7_floor_38
  · skip
    refine lv_iload_n hx hb dX7_floor_10 rfl (lv_at hl 1 rfl) ?_
    refine lv_if_ge (tgt := 18) hx hb dX7_floor_11 (by decide) (fun c_2 => ?_) (fun c_2 => ?_)
    · skip
      refine lv_iconst (v := 0) hx hb dX7_floor_18 (by decide) ?_
      refine lv_iload_n hx hb dX7_floor_19 rfl (lv_at hl 2 rfl) ?_
      refine lv_if_ge (tgt := 27) hx hb dX7_floor_20 (by decide) (fun c_3 => ?_) (fun c_3 => ?_)
      · skip
        refine lv_iconst (v := 0) hx hb dX7_floor_27 (by decide) ?_
        refine lv_icmp_eq (tgt := 37) hx hb dX7_floor_28 (by decide) (fun c_4 => ?_) (fun c_4 => ?_)
        · skip
          refine lv_iload_n hx hb dX7_floor_37 rfl (lv_at hl 0 rfl) ?_
          have ef : (f_X7_floor p0 p1) = (p0 / p1) := ((if_neg c_1).trans ((if_pos c_2).trans (if_pos c_3)))
          exact gRetI F hr hlocks hK hP hD hS (by rw [ef]) rfl (Nat.le_of_ble_eq_true rfl) (Nat.le_of_ble_eq_true rfl) dX7_floor_38
        · exact absurd c_4 (by decide)
      · skip
        refine lv_iconst (v := 1) hx hb dX7_floor_23 (by decide) ?_
        refine lv_goto (tgt := 28) hx hb dX7_floor_24 (by decide) ?_
        refine lv_icmp_eq (tgt := 37) hx hb dX7_floor_28 (by decide) (fun c_5 => ?_) (fun c_5 => ?_)
        · exact absurd c_5 (by decide)
        · skip
          refine lv_iload_n hx hb dX7_floor_31 rfl (lv_at hl 0 rfl) ?_
          refine lv_iconst (v := 1) hx hb dX7_floor_32 (by decide) ?_
          refine lv_isub hx hb dX7_floor_33 ?_
          refine lv_goto (tgt := 38) hx hb dX7_floor_34 (by decide) ?_
          have ef : (f_X7_floor p0 p1) = ((p0 / p1) - 1) := ((if_neg c_1).trans ((if_pos c_2).trans (if_neg c_3)))
          exact gRetI F hr hlocks hK hP hD hS (by rw [ef]) rfl (Nat.le_of_ble_eq_true rfl) (Nat.le_of_ble_eq_true rfl) dX7_floor_38
    · skip
      refine lv_iconst (v := 1) hx hb dX7_floor_14 (by decide) ?_
      refine lv_goto (tgt := 19) hx hb dX7_floor_15 (by decide) ?_
      refine lv_iload_n hx hb dX7_floor_19 rfl (lv_at hl 2 rfl) ?_
      refine lv_if_ge (tgt := 27) hx hb dX7_floor_20 (by decide) (fun c_6 => ?_) (fun c_6 => ?_)
      · skip
        refine lv_iconst (v := 0) hx hb dX7_floor_27 (by decide) ?_
        refine lv_icmp_eq (tgt := 37) hx hb dX7_floor_28 (by decide) (fun c_7 => ?_) (fun c_7 => ?_)
        · exact absurd c_7 (by decide)
        · skip
          refine lv_iload_n hx hb dX7_floor_31 rfl (lv_at hl 0 rfl) ?_
          refine lv_iconst (v := 1) hx hb dX7_floor_32 (by decide) ?_
          refine lv_isub hx hb dX7_floor_33 ?_
          refine lv_goto (tgt := 38) hx hb dX7_floor_34 (by decide) ?_
          have ef : (f_X7_floor p0 p1) = ((p0 / p1) - 1) := ((if_neg c_1).trans ((if_neg c_2).trans (if_pos c_6)))
          exact gRetI F hr hlocks hK hP hD hS (by rw [ef]) rfl (Nat.le_of_ble_eq_true rfl) (Nat.le_of_ble_eq_true rfl) dX7_floor_38
      · skip
        refine lv_iconst (v := 1) hx hb dX7_floor_23 (by decide) ?_
        refine lv_goto (tgt := 28) hx hb dX7_floor_24 (by decide) ?_
        refine lv_icmp_eq (tgt := 37) hx hb dX7_floor_28 (by decide) (fun c_8 => ?_) (fun c_8 => ?_)
        · skip
          refine lv_iload_n hx hb dX7_floor_37 rfl (lv_at hl 0 rfl) ?_
          have ef : (f_X7_floor p0 p1) = (p0 / p1) := ((if_neg c_1).trans ((if_neg c_2).trans (if_neg c_6)))
          exact gRetI F hr hlocks hK hP hD hS (by rw [ef]) rfl (Nat.le_of_ble_eq_true rfl) (Nat.le_of_ble_eq_true rfl) dX7_floor_38
        · exact absurd c_8 (by decide)
theorem okS_X7_floor : gOkS yX7_floor cX7_floor 3 (some .int) 2 := ⟨⟨k_st_X7_floor, k_in_X7, k_cd_X7_floor⟩, by decide, by decide, by decide +kernel⟩
def f_X7_distance (p0 : Int32) : Int32 :=
  if 0 ≤ p0 then
    p0
  else
    (-p0)
set_option maxRecDepth 100000 in
set_option maxHeartbeats 4000000 in
theorem c_X7_distance (l : Launch) (G : gG) (p0 : Int32) : gM l G yX7_distance cX7_distance 1 (some .int) { frames := 0, cells := 0, slots := 0, locals := 0 } [.int p0] [] (some (.int (f_X7_distance p0))) [] 0 0 := by
  refine gBegin (by decide +kernel) (Nat.le_of_ble_eq_true rfl) (fun p e s m args below meth c A F hr hlocks hname hN hK hP hD hA hS ls hl => ?_)
  obtain ⟨hx, hb, hml, hown, hts⟩ := id F
  replace hP : va_P G.1 vwCl [] s.heap := hP
  replace hl : lv_has ls 1 [(0, .int p0)] := hl
  refine lv_iload_n hx hb dX7_distance_0 rfl (lv_at hl 0 rfl) ?_
  refine lv_if_ge (tgt := 9) hx hb dX7_distance_1 (by decide) (fun c_1 => ?_) (fun c_1 => ?_)
  · skip
    refine lv_iload_n hx hb dX7_distance_9 rfl (lv_at hl 0 rfl) ?_
    have ef : (f_X7_distance p0) = p0 := (if_pos c_1)
    exact gRetI F hr hlocks hK hP hD hS (by rw [ef]) rfl (Nat.le_of_ble_eq_true rfl) (Nat.le_of_ble_eq_true rfl) dX7_distance_10
  · skip
    refine lv_iload_n hx hb dX7_distance_4 rfl (lv_at hl 0 rfl) ?_
    refine lv_ineg hx hb dX7_distance_5 ?_
    refine lv_goto (tgt := 10) hx hb dX7_distance_6 (by decide) ?_
    have ef : (f_X7_distance p0) = (-p0) := (if_neg c_1)
    exact gRetI F hr hlocks hK hP hD hS (by rw [ef]) rfl (Nat.le_of_ble_eq_true rfl) (Nat.le_of_ble_eq_true rfl) dX7_distance_10
theorem okS_X7_distance : gOkS yX7_distance cX7_distance 1 (some .int) 1 := ⟨⟨k_st_X7_distance, k_in_X7, k_cd_X7_distance⟩, by decide, by decide, by decide +kernel⟩
def f_X7_wrap (p0 : Int64) : Int32 :=
  if (Int64.toInt32 (p0 &&& 1048575)) ≤ 524287 then
    (Int64.toInt32 (p0 &&& 1048575))
  else
    (((Int64.toInt32 (p0 &&& 1048575)) - 1048575) - 1)
set_option maxRecDepth 100000 in
set_option maxHeartbeats 4000000 in
theorem c_X7_wrap (l : Launch) (G : gG) (p0 : Int64) : gM l G yX7_wrap cX7_wrap 3 (some .int) { frames := 0, cells := 0, slots := 0, locals := 0 } [.long p0] [] (some (.int (f_X7_wrap p0))) [] 0 0 := by
  refine gBegin (by decide +kernel) (Nat.le_of_ble_eq_true rfl) (fun p e s m args below meth c A F hr hlocks hname hN hK hP hD hA hS ls hl => ?_)
  obtain ⟨hx, hb, hml, hown, hts⟩ := id F
  replace hP : va_P G.1 vwCl [] s.heap := hP
  replace hl : lv_has ls 3 [(0, .long p0)] := hl
  refine lv_lload_n hx hb dX7_wrap_0 rfl (lv_at hl 0 rfl) ?_
  refine lv_ldc2 (v := 1048575) hx hb hown (hts _ k_lc_X7_91) dX7_wrap_1 ?_
  refine lv_land hx hb dX7_wrap_4 ?_
  refine lv_l2i (v := (Int64.toInt32 (p0 &&& 1048575))) hx hb dX7_wrap_5 rfl ?_
  refine lv_istore_n (lv' := [(2, .int (Int64.toInt32 (p0 &&& 1048575))), (0, .long p0)]) hx hb dX7_wrap_6 rfl hl (by decide) rfl (fun ls hl => ?_)
  refine lv_iload_n hx hb dX7_wrap_7 rfl (lv_at hl 0 rfl) ?_
  refine lv_ldc (v := 524287) hx hb hown (hts _ k_co_X7_93) dX7_wrap_8 ?_
  refine lv_icmp_le (tgt := 22) hx hb dX7_wrap_10 (by decide) (fun c_1 => ?_) (fun c_1 => ?_)
  · skip
    refine lv_iload_n hx hb dX7_wrap_22 rfl (lv_at hl 0 rfl) ?_
    have ef : (f_X7_wrap p0) = (Int64.toInt32 (p0 &&& 1048575)) := (if_pos c_1)
    exact gRetI F hr hlocks hK hP hD hS (by rw [ef]) rfl (Nat.le_of_ble_eq_true rfl) (Nat.le_of_ble_eq_true rfl) dX7_wrap_23
  · skip
    refine lv_iload_n hx hb dX7_wrap_13 rfl (lv_at hl 0 rfl) ?_
    refine lv_ldc (v := 1048575) hx hb hown (hts _ k_co_X7_94) dX7_wrap_14 ?_
    refine lv_isub hx hb dX7_wrap_16 ?_
    refine lv_iconst (v := 1) hx hb dX7_wrap_17 (by decide) ?_
    refine lv_isub hx hb dX7_wrap_18 ?_
    refine lv_goto (tgt := 23) hx hb dX7_wrap_19 (by decide) ?_
    have ef : (f_X7_wrap p0) = (((Int64.toInt32 (p0 &&& 1048575)) - 1048575) - 1) := (if_neg c_1)
    exact gRetI F hr hlocks hK hP hD hS (by rw [ef]) rfl (Nat.le_of_ble_eq_true rfl) (Nat.le_of_ble_eq_true rfl) dX7_wrap_23
theorem okS_X7_wrap : gOkS yX7_wrap cX7_wrap 3 (some .int) 1 := ⟨⟨k_st_X7_wrap, k_in_X7, k_cd_X7_wrap⟩, by decide, by decide, by decide +kernel⟩
def f_X7_four (len : Int32) (text : Nat → Int32) (p0 : Int32) : Int32 × (Nat → Int32) :=
  (((((len + 1) + 1) + 1) + 1), (upd (upd (upd (upd text (Int32.toNatClampNeg len) (((p0 >>> ((24 : Int32) &&& 31)) : Int32) &&& 255)) (Int32.toNatClampNeg (len + 1)) (((p0 >>> ((16 : Int32) &&& 31)) : Int32) &&& 255)) (Int32.toNatClampNeg ((len + 1) + 1)) (((p0 >>> ((8 : Int32) &&& 31)) : Int32) &&& 255)) (Int32.toNatClampNeg (((len + 1) + 1) + 1)) (((p0 >>> ((0 : Int32) &&& 31)) : Int32) &&& 255)))
set_option maxRecDepth 100000 in
set_option maxHeartbeats 4000000 in
theorem c_X7_four (l : Launch) (G : gG) (m0 : Nat) (m1 : Nat) (m2 : Nat) (m3 : Nat) (m6 : Nat) (m13 : Nat) (m14 : Nat) (m17 : Nat) (m18 : Nat) (m19 : Nat) (rz : Int32) (hf : Int32) (hs : Int32) (len : Int32) (ec : Int32) (ep : Int32) (pos : Int32) (bg : Int32) (bad : Int32) (plc : Int32) (sta : Int32) (shm : Int32) (text : Nat → Int32) (p0 : Int32) (hl4 : 0 ≤ len.toInt ∧ len.toInt + 4 ≤ 600) : gM l G yX7_four cX7_four 3 none { frames := 0, cells := 0, slots := 0, locals := 0 } [.ref m0, .int p0] [(m0, .inr (10, [.int rz, .ref m1, .ref m2, .ref m3, .int hf, .int hs, .ref m6, .int len, .int ec, .int ep, .int pos, .int bg, .int bad, .ref m13, .ref m14, .int plc, .int sta, .ref m17, .ref m18, .ref m19, .int shm])), (m6, .inl (G.2.1.1, 600, .inl text))] none [(m0, .inr (10, [.int rz, .ref m1, .ref m2, .ref m3, .int hf, .int hs, .ref m6, .int ((f_X7_four len text p0).1), .int ec, .int ep, .int pos, .int bg, .int bad, .ref m13, .ref m14, .int plc, .int sta, .ref m17, .ref m18, .ref m19, .int shm])), (m6, .inl (G.2.1.1, 600, .inl ((f_X7_four len text p0).2)))] 0 0 := by
  refine gBegin (by decide +kernel) (Nat.le_of_ble_eq_true rfl) (fun p e s m args below meth c A F hr hlocks hname hN hK hP hD hA hS ls hl => ?_)
  obtain ⟨hx, hb, hml, hown, hts⟩ := id F
  replace hP : va_P G.1 vwCl [(m0, .inr (10, [.int rz, .ref m1, .ref m2, .ref m3, .int hf, .int hs, .ref m6, .int len, .int ec, .int ep, .int pos, .int bg, .int bad, .ref m13, .ref m14, .int plc, .int sta, .ref m17, .ref m18, .ref m19, .int shm])), (m6, .inl (G.2.1.1, 600, .inl text))] s.heap := hP
  replace hl : lv_has ls 3 [(0, .ref m0), (1, .int p0)] := hl
  refine lv_bipush (v := 24) hx hb dX7_four_0 (by decide) ?_
  refine lv_istore_n (lv' := [(2, .int 24), (0, .ref m0), (1, .int p0)]) hx hb dX7_four_2 rfl hl (by decide) rfl (fun ls hl => ?_)
  refine lv_iload_n hx hb dX7_four_3 rfl (lv_at hl 0 rfl) ?_
  refine lv_if_lt (tgt := 39) hx hb dX7_four_4 (by decide) (fun c_1 => ?_) (fun c_1 => ?_)
  · exact absurd c_1 (by decide)
  · skip
    refine lv_aload_n hx hb dX7_four_7 rfl (lv_at hl 1 rfl) ?_
    refine va_get (D := G.1) (ci := 10) (v := .ref m6) (C := RX7) (T := TX7) (N := 21) hx hb hts in_X7 hown hK hP 0 rfl rfl 6 (by decide) (hts _ k_fl_X7_19) (fun _ h9 => h9) rfl dX7_four_8 ?_
    refine lv_aload_n hx hb dX7_four_11 rfl (lv_at hl 1 rfl) ?_
    refine va_get (D := G.1) (ci := 10) (v := .int len) (C := RX7) (T := TX7) (N := 21) hx hb hts in_X7 hown hK hP 0 rfl rfl 7 (by decide) (hts _ k_fl_X7_95) (fun _ h9 => h9) rfl dX7_four_12 ?_
    refine lv_iload_n hx hb dX7_four_15 rfl (lv_at hl 2 rfl) ?_
    refine lv_iload_n hx hb dX7_four_16 rfl (lv_at hl 0 rfl) ?_
    refine lv_ishr hx hb dX7_four_17 ?_
    refine lv_sipush (v := 255) hx hb dX7_four_18 (by decide) ?_
    refine lv_iand hx hb dX7_four_21 ?_
    refine va_iast hx hb hK hP hD hS 1 0 rfl rfl (by (try rw [vp_in_iff]); omega) dX7_four_22 (fun H locs hP hD hS => ?_)
    replace hP : va_P G.1 vwCl [(m0, .inr (10, [.int rz, .ref m1, .ref m2, .ref m3, .int hf, .int hs, .ref m6, .int len, .int ec, .int ep, .int pos, .int bg, .int bad, .ref m13, .ref m14, .int plc, .int sta, .ref m17, .ref m18, .ref m19, .int shm])), (m6, .inl (G.2.1.1, 600, .inl (upd text (Int32.toNatClampNeg len) (((p0 >>> ((24 : Int32) &&& 31)) : Int32) &&& 255))))] H := hP
    replace hD : va_D A [(m0, .inr (10, [.int rz, .ref m1, .ref m2, .ref m3, .int hf, .int hs, .ref m6, .int len, .int ec, .int ep, .int pos, .int bg, .int bad, .ref m13, .ref m14, .int plc, .int sta, .ref m17, .ref m18, .ref m19, .int shm])), (m6, .inl (G.2.1.1, 600, .inl (upd text (Int32.toNatClampNeg len) (((p0 >>> ((24 : Int32) &&& 31)) : Int32) &&& 255))))] := hD
    refine lv_aload_n hx hb dX7_four_23 rfl (lv_at hl 1 rfl) ?_
    refine lv_dup hx hb dX7_four_24 rfl ?_
    refine va_get (D := G.1) (ci := 10) (v := .int len) (C := RX7) (T := TX7) (N := 21) hx hb hts in_X7 hown hK hP 0 rfl rfl 7 (by decide) (hts _ k_fl_X7_95) (fun _ h9 => h9) rfl dX7_four_25 ?_
    refine lv_iconst (v := 1) hx hb dX7_four_28 (by decide) ?_
    refine lv_iadd hx hb dX7_four_29 ?_
    refine va_put (D := G.1) (ci := 10) (v := .int (len + 1)) (ty := .int) (C := RX7) (T := TX7) (N := 21) hx hb hts in_X7 tyX7 tyX7_ok nmX7 hown hK hP hD hS 0 rfl rfl 7 (by decide) (hts _ k_fl_X7_95) (fun _ h9 => h9) rfl (by decide +kernel) rfl rfl (Nat.le_of_ble_eq_true rfl) dX7_four_30 (fun H locs hP hD hS => ?_)
    replace hP : va_P G.1 vwCl [(m0, .inr (10, [.int rz, .ref m1, .ref m2, .ref m3, .int hf, .int hs, .ref m6, .int (len + 1), .int ec, .int ep, .int pos, .int bg, .int bad, .ref m13, .ref m14, .int plc, .int sta, .ref m17, .ref m18, .ref m19, .int shm])), (m6, .inl (G.2.1.1, 600, .inl (upd text (Int32.toNatClampNeg len) (((p0 >>> ((24 : Int32) &&& 31)) : Int32) &&& 255))))] H := hP
    replace hD : va_D A [(m0, .inr (10, [.int rz, .ref m1, .ref m2, .ref m3, .int hf, .int hs, .ref m6, .int (len + 1), .int ec, .int ep, .int pos, .int bg, .int bad, .ref m13, .ref m14, .int plc, .int sta, .ref m17, .ref m18, .ref m19, .int shm])), (m6, .inl (G.2.1.1, 600, .inl (upd text (Int32.toNatClampNeg len) (((p0 >>> ((24 : Int32) &&& 31)) : Int32) &&& 255))))] := hD
    refine lv_iinc (v := 16) (lv' := [(2, .int 16), (0, .ref m0), (1, .int p0)]) hx hb dX7_four_33 hl (k := 0) rfl rfl (by decide) rfl (fun ls hl => ?_)
    refine lv_goto (tgt := 3) hx hb dX7_four_36 (by decide) ?_
    refine lv_iload_n hx hb dX7_four_3 rfl (lv_at hl 0 rfl) ?_
    refine lv_if_lt (tgt := 39) hx hb dX7_four_4 (by decide) (fun c_2 => ?_) (fun c_2 => ?_)
    · exact absurd c_2 (by decide)
    · skip
      refine lv_aload_n hx hb dX7_four_7 rfl (lv_at hl 1 rfl) ?_
      refine va_get (D := G.1) (ci := 10) (v := .ref m6) (C := RX7) (T := TX7) (N := 21) hx hb hts in_X7 hown hK hP 0 rfl rfl 6 (by decide) (hts _ k_fl_X7_19) (fun _ h9 => h9) rfl dX7_four_8 ?_
      refine lv_aload_n hx hb dX7_four_11 rfl (lv_at hl 1 rfl) ?_
      refine va_get (D := G.1) (ci := 10) (v := .int (len + 1)) (C := RX7) (T := TX7) (N := 21) hx hb hts in_X7 hown hK hP 0 rfl rfl 7 (by decide) (hts _ k_fl_X7_95) (fun _ h9 => h9) rfl dX7_four_12 ?_
      refine lv_iload_n hx hb dX7_four_15 rfl (lv_at hl 2 rfl) ?_
      refine lv_iload_n hx hb dX7_four_16 rfl (lv_at hl 0 rfl) ?_
      refine lv_ishr hx hb dX7_four_17 ?_
      refine lv_sipush (v := 255) hx hb dX7_four_18 (by decide) ?_
      refine lv_iand hx hb dX7_four_21 ?_
      refine va_iast hx hb hK hP hD hS 1 0 rfl rfl (by have z1 : (1 : Int32).toInt = 1 := (by decide); (try have z2 := gI_add (x := len) (y := 1) (by omega) (by omega)); (try rw [vp_in_iff]); omega) dX7_four_22 (fun H locs hP hD hS => ?_)
      replace hP : va_P G.1 vwCl [(m0, .inr (10, [.int rz, .ref m1, .ref m2, .ref m3, .int hf, .int hs, .ref m6, .int (len + 1), .int ec, .int ep, .int pos, .int bg, .int bad, .ref m13, .ref m14, .int plc, .int sta, .ref m17, .ref m18, .ref m19, .int shm])), (m6, .inl (G.2.1.1, 600, .inl (upd (upd text (Int32.toNatClampNeg len) (((p0 >>> ((24 : Int32) &&& 31)) : Int32) &&& 255)) (Int32.toNatClampNeg (len + 1)) (((p0 >>> ((16 : Int32) &&& 31)) : Int32) &&& 255))))] H := hP
      replace hD : va_D A [(m0, .inr (10, [.int rz, .ref m1, .ref m2, .ref m3, .int hf, .int hs, .ref m6, .int (len + 1), .int ec, .int ep, .int pos, .int bg, .int bad, .ref m13, .ref m14, .int plc, .int sta, .ref m17, .ref m18, .ref m19, .int shm])), (m6, .inl (G.2.1.1, 600, .inl (upd (upd text (Int32.toNatClampNeg len) (((p0 >>> ((24 : Int32) &&& 31)) : Int32) &&& 255)) (Int32.toNatClampNeg (len + 1)) (((p0 >>> ((16 : Int32) &&& 31)) : Int32) &&& 255))))] := hD
      refine lv_aload_n hx hb dX7_four_23 rfl (lv_at hl 1 rfl) ?_
      refine lv_dup hx hb dX7_four_24 rfl ?_
      refine va_get (D := G.1) (ci := 10) (v := .int (len + 1)) (C := RX7) (T := TX7) (N := 21) hx hb hts in_X7 hown hK hP 0 rfl rfl 7 (by decide) (hts _ k_fl_X7_95) (fun _ h9 => h9) rfl dX7_four_25 ?_
      refine lv_iconst (v := 1) hx hb dX7_four_28 (by decide) ?_
      refine lv_iadd hx hb dX7_four_29 ?_
      refine va_put (D := G.1) (ci := 10) (v := .int ((len + 1) + 1)) (ty := .int) (C := RX7) (T := TX7) (N := 21) hx hb hts in_X7 tyX7 tyX7_ok nmX7 hown hK hP hD hS 0 rfl rfl 7 (by decide) (hts _ k_fl_X7_95) (fun _ h9 => h9) rfl (by decide +kernel) rfl rfl (Nat.le_of_ble_eq_true rfl) dX7_four_30 (fun H locs hP hD hS => ?_)
      replace hP : va_P G.1 vwCl [(m0, .inr (10, [.int rz, .ref m1, .ref m2, .ref m3, .int hf, .int hs, .ref m6, .int ((len + 1) + 1), .int ec, .int ep, .int pos, .int bg, .int bad, .ref m13, .ref m14, .int plc, .int sta, .ref m17, .ref m18, .ref m19, .int shm])), (m6, .inl (G.2.1.1, 600, .inl (upd (upd text (Int32.toNatClampNeg len) (((p0 >>> ((24 : Int32) &&& 31)) : Int32) &&& 255)) (Int32.toNatClampNeg (len + 1)) (((p0 >>> ((16 : Int32) &&& 31)) : Int32) &&& 255))))] H := hP
      replace hD : va_D A [(m0, .inr (10, [.int rz, .ref m1, .ref m2, .ref m3, .int hf, .int hs, .ref m6, .int ((len + 1) + 1), .int ec, .int ep, .int pos, .int bg, .int bad, .ref m13, .ref m14, .int plc, .int sta, .ref m17, .ref m18, .ref m19, .int shm])), (m6, .inl (G.2.1.1, 600, .inl (upd (upd text (Int32.toNatClampNeg len) (((p0 >>> ((24 : Int32) &&& 31)) : Int32) &&& 255)) (Int32.toNatClampNeg (len + 1)) (((p0 >>> ((16 : Int32) &&& 31)) : Int32) &&& 255))))] := hD
      refine lv_iinc (v := 8) (lv' := [(2, .int 8), (0, .ref m0), (1, .int p0)]) hx hb dX7_four_33 hl (k := 0) rfl rfl (by decide) rfl (fun ls hl => ?_)
      refine lv_goto (tgt := 3) hx hb dX7_four_36 (by decide) ?_
      refine lv_iload_n hx hb dX7_four_3 rfl (lv_at hl 0 rfl) ?_
      refine lv_if_lt (tgt := 39) hx hb dX7_four_4 (by decide) (fun c_3 => ?_) (fun c_3 => ?_)
      · exact absurd c_3 (by decide)
      · skip
        refine lv_aload_n hx hb dX7_four_7 rfl (lv_at hl 1 rfl) ?_
        refine va_get (D := G.1) (ci := 10) (v := .ref m6) (C := RX7) (T := TX7) (N := 21) hx hb hts in_X7 hown hK hP 0 rfl rfl 6 (by decide) (hts _ k_fl_X7_19) (fun _ h9 => h9) rfl dX7_four_8 ?_
        refine lv_aload_n hx hb dX7_four_11 rfl (lv_at hl 1 rfl) ?_
        refine va_get (D := G.1) (ci := 10) (v := .int ((len + 1) + 1)) (C := RX7) (T := TX7) (N := 21) hx hb hts in_X7 hown hK hP 0 rfl rfl 7 (by decide) (hts _ k_fl_X7_95) (fun _ h9 => h9) rfl dX7_four_12 ?_
        refine lv_iload_n hx hb dX7_four_15 rfl (lv_at hl 2 rfl) ?_
        refine lv_iload_n hx hb dX7_four_16 rfl (lv_at hl 0 rfl) ?_
        refine lv_ishr hx hb dX7_four_17 ?_
        refine lv_sipush (v := 255) hx hb dX7_four_18 (by decide) ?_
        refine lv_iand hx hb dX7_four_21 ?_
        refine va_iast hx hb hK hP hD hS 1 0 rfl rfl (by have z1 : (1 : Int32).toInt = 1 := (by decide); (try have z2 := gI_add (x := len) (y := 1) (by omega) (by omega)); (try have z3 := gI_add (x := (len + 1)) (y := 1) (by omega) (by omega)); (try rw [vp_in_iff]); omega) dX7_four_22 (fun H locs hP hD hS => ?_)
        replace hP : va_P G.1 vwCl [(m0, .inr (10, [.int rz, .ref m1, .ref m2, .ref m3, .int hf, .int hs, .ref m6, .int ((len + 1) + 1), .int ec, .int ep, .int pos, .int bg, .int bad, .ref m13, .ref m14, .int plc, .int sta, .ref m17, .ref m18, .ref m19, .int shm])), (m6, .inl (G.2.1.1, 600, .inl (upd (upd (upd text (Int32.toNatClampNeg len) (((p0 >>> ((24 : Int32) &&& 31)) : Int32) &&& 255)) (Int32.toNatClampNeg (len + 1)) (((p0 >>> ((16 : Int32) &&& 31)) : Int32) &&& 255)) (Int32.toNatClampNeg ((len + 1) + 1)) (((p0 >>> ((8 : Int32) &&& 31)) : Int32) &&& 255))))] H := hP
        replace hD : va_D A [(m0, .inr (10, [.int rz, .ref m1, .ref m2, .ref m3, .int hf, .int hs, .ref m6, .int ((len + 1) + 1), .int ec, .int ep, .int pos, .int bg, .int bad, .ref m13, .ref m14, .int plc, .int sta, .ref m17, .ref m18, .ref m19, .int shm])), (m6, .inl (G.2.1.1, 600, .inl (upd (upd (upd text (Int32.toNatClampNeg len) (((p0 >>> ((24 : Int32) &&& 31)) : Int32) &&& 255)) (Int32.toNatClampNeg (len + 1)) (((p0 >>> ((16 : Int32) &&& 31)) : Int32) &&& 255)) (Int32.toNatClampNeg ((len + 1) + 1)) (((p0 >>> ((8 : Int32) &&& 31)) : Int32) &&& 255))))] := hD
        refine lv_aload_n hx hb dX7_four_23 rfl (lv_at hl 1 rfl) ?_
        refine lv_dup hx hb dX7_four_24 rfl ?_
        refine va_get (D := G.1) (ci := 10) (v := .int ((len + 1) + 1)) (C := RX7) (T := TX7) (N := 21) hx hb hts in_X7 hown hK hP 0 rfl rfl 7 (by decide) (hts _ k_fl_X7_95) (fun _ h9 => h9) rfl dX7_four_25 ?_
        refine lv_iconst (v := 1) hx hb dX7_four_28 (by decide) ?_
        refine lv_iadd hx hb dX7_four_29 ?_
        refine va_put (D := G.1) (ci := 10) (v := .int (((len + 1) + 1) + 1)) (ty := .int) (C := RX7) (T := TX7) (N := 21) hx hb hts in_X7 tyX7 tyX7_ok nmX7 hown hK hP hD hS 0 rfl rfl 7 (by decide) (hts _ k_fl_X7_95) (fun _ h9 => h9) rfl (by decide +kernel) rfl rfl (Nat.le_of_ble_eq_true rfl) dX7_four_30 (fun H locs hP hD hS => ?_)
        replace hP : va_P G.1 vwCl [(m0, .inr (10, [.int rz, .ref m1, .ref m2, .ref m3, .int hf, .int hs, .ref m6, .int (((len + 1) + 1) + 1), .int ec, .int ep, .int pos, .int bg, .int bad, .ref m13, .ref m14, .int plc, .int sta, .ref m17, .ref m18, .ref m19, .int shm])), (m6, .inl (G.2.1.1, 600, .inl (upd (upd (upd text (Int32.toNatClampNeg len) (((p0 >>> ((24 : Int32) &&& 31)) : Int32) &&& 255)) (Int32.toNatClampNeg (len + 1)) (((p0 >>> ((16 : Int32) &&& 31)) : Int32) &&& 255)) (Int32.toNatClampNeg ((len + 1) + 1)) (((p0 >>> ((8 : Int32) &&& 31)) : Int32) &&& 255))))] H := hP
        replace hD : va_D A [(m0, .inr (10, [.int rz, .ref m1, .ref m2, .ref m3, .int hf, .int hs, .ref m6, .int (((len + 1) + 1) + 1), .int ec, .int ep, .int pos, .int bg, .int bad, .ref m13, .ref m14, .int plc, .int sta, .ref m17, .ref m18, .ref m19, .int shm])), (m6, .inl (G.2.1.1, 600, .inl (upd (upd (upd text (Int32.toNatClampNeg len) (((p0 >>> ((24 : Int32) &&& 31)) : Int32) &&& 255)) (Int32.toNatClampNeg (len + 1)) (((p0 >>> ((16 : Int32) &&& 31)) : Int32) &&& 255)) (Int32.toNatClampNeg ((len + 1) + 1)) (((p0 >>> ((8 : Int32) &&& 31)) : Int32) &&& 255))))] := hD
        refine lv_iinc (v := 0) (lv' := [(2, .int 0), (0, .ref m0), (1, .int p0)]) hx hb dX7_four_33 hl (k := 0) rfl rfl (by decide) rfl (fun ls hl => ?_)
        refine lv_goto (tgt := 3) hx hb dX7_four_36 (by decide) ?_
        refine lv_iload_n hx hb dX7_four_3 rfl (lv_at hl 0 rfl) ?_
        refine lv_if_lt (tgt := 39) hx hb dX7_four_4 (by decide) (fun c_4 => ?_) (fun c_4 => ?_)
        · exact absurd c_4 (by decide)
        · skip
          refine lv_aload_n hx hb dX7_four_7 rfl (lv_at hl 1 rfl) ?_
          refine va_get (D := G.1) (ci := 10) (v := .ref m6) (C := RX7) (T := TX7) (N := 21) hx hb hts in_X7 hown hK hP 0 rfl rfl 6 (by decide) (hts _ k_fl_X7_19) (fun _ h9 => h9) rfl dX7_four_8 ?_
          refine lv_aload_n hx hb dX7_four_11 rfl (lv_at hl 1 rfl) ?_
          refine va_get (D := G.1) (ci := 10) (v := .int (((len + 1) + 1) + 1)) (C := RX7) (T := TX7) (N := 21) hx hb hts in_X7 hown hK hP 0 rfl rfl 7 (by decide) (hts _ k_fl_X7_95) (fun _ h9 => h9) rfl dX7_four_12 ?_
          refine lv_iload_n hx hb dX7_four_15 rfl (lv_at hl 2 rfl) ?_
          refine lv_iload_n hx hb dX7_four_16 rfl (lv_at hl 0 rfl) ?_
          refine lv_ishr hx hb dX7_four_17 ?_
          refine lv_sipush (v := 255) hx hb dX7_four_18 (by decide) ?_
          refine lv_iand hx hb dX7_four_21 ?_
          refine va_iast hx hb hK hP hD hS 1 0 rfl rfl (by have z1 : (1 : Int32).toInt = 1 := (by decide); (try have z2 := gI_add (x := len) (y := 1) (by omega) (by omega)); (try have z3 := gI_add (x := (len + 1)) (y := 1) (by omega) (by omega)); (try have z4 := gI_add (x := ((len + 1) + 1)) (y := 1) (by omega) (by omega)); (try rw [vp_in_iff]); omega) dX7_four_22 (fun H locs hP hD hS => ?_)
          replace hP : va_P G.1 vwCl [(m0, .inr (10, [.int rz, .ref m1, .ref m2, .ref m3, .int hf, .int hs, .ref m6, .int (((len + 1) + 1) + 1), .int ec, .int ep, .int pos, .int bg, .int bad, .ref m13, .ref m14, .int plc, .int sta, .ref m17, .ref m18, .ref m19, .int shm])), (m6, .inl (G.2.1.1, 600, .inl (upd (upd (upd (upd text (Int32.toNatClampNeg len) (((p0 >>> ((24 : Int32) &&& 31)) : Int32) &&& 255)) (Int32.toNatClampNeg (len + 1)) (((p0 >>> ((16 : Int32) &&& 31)) : Int32) &&& 255)) (Int32.toNatClampNeg ((len + 1) + 1)) (((p0 >>> ((8 : Int32) &&& 31)) : Int32) &&& 255)) (Int32.toNatClampNeg (((len + 1) + 1) + 1)) (((p0 >>> ((0 : Int32) &&& 31)) : Int32) &&& 255))))] H := hP
          replace hD : va_D A [(m0, .inr (10, [.int rz, .ref m1, .ref m2, .ref m3, .int hf, .int hs, .ref m6, .int (((len + 1) + 1) + 1), .int ec, .int ep, .int pos, .int bg, .int bad, .ref m13, .ref m14, .int plc, .int sta, .ref m17, .ref m18, .ref m19, .int shm])), (m6, .inl (G.2.1.1, 600, .inl (upd (upd (upd (upd text (Int32.toNatClampNeg len) (((p0 >>> ((24 : Int32) &&& 31)) : Int32) &&& 255)) (Int32.toNatClampNeg (len + 1)) (((p0 >>> ((16 : Int32) &&& 31)) : Int32) &&& 255)) (Int32.toNatClampNeg ((len + 1) + 1)) (((p0 >>> ((8 : Int32) &&& 31)) : Int32) &&& 255)) (Int32.toNatClampNeg (((len + 1) + 1) + 1)) (((p0 >>> ((0 : Int32) &&& 31)) : Int32) &&& 255))))] := hD
          refine lv_aload_n hx hb dX7_four_23 rfl (lv_at hl 1 rfl) ?_
          refine lv_dup hx hb dX7_four_24 rfl ?_
          refine va_get (D := G.1) (ci := 10) (v := .int (((len + 1) + 1) + 1)) (C := RX7) (T := TX7) (N := 21) hx hb hts in_X7 hown hK hP 0 rfl rfl 7 (by decide) (hts _ k_fl_X7_95) (fun _ h9 => h9) rfl dX7_four_25 ?_
          refine lv_iconst (v := 1) hx hb dX7_four_28 (by decide) ?_
          refine lv_iadd hx hb dX7_four_29 ?_
          refine va_put (D := G.1) (ci := 10) (v := .int ((((len + 1) + 1) + 1) + 1)) (ty := .int) (C := RX7) (T := TX7) (N := 21) hx hb hts in_X7 tyX7 tyX7_ok nmX7 hown hK hP hD hS 0 rfl rfl 7 (by decide) (hts _ k_fl_X7_95) (fun _ h9 => h9) rfl (by decide +kernel) rfl rfl (Nat.le_of_ble_eq_true rfl) dX7_four_30 (fun H locs hP hD hS => ?_)
          replace hP : va_P G.1 vwCl [(m0, .inr (10, [.int rz, .ref m1, .ref m2, .ref m3, .int hf, .int hs, .ref m6, .int ((((len + 1) + 1) + 1) + 1), .int ec, .int ep, .int pos, .int bg, .int bad, .ref m13, .ref m14, .int plc, .int sta, .ref m17, .ref m18, .ref m19, .int shm])), (m6, .inl (G.2.1.1, 600, .inl (upd (upd (upd (upd text (Int32.toNatClampNeg len) (((p0 >>> ((24 : Int32) &&& 31)) : Int32) &&& 255)) (Int32.toNatClampNeg (len + 1)) (((p0 >>> ((16 : Int32) &&& 31)) : Int32) &&& 255)) (Int32.toNatClampNeg ((len + 1) + 1)) (((p0 >>> ((8 : Int32) &&& 31)) : Int32) &&& 255)) (Int32.toNatClampNeg (((len + 1) + 1) + 1)) (((p0 >>> ((0 : Int32) &&& 31)) : Int32) &&& 255))))] H := hP
          replace hD : va_D A [(m0, .inr (10, [.int rz, .ref m1, .ref m2, .ref m3, .int hf, .int hs, .ref m6, .int ((((len + 1) + 1) + 1) + 1), .int ec, .int ep, .int pos, .int bg, .int bad, .ref m13, .ref m14, .int plc, .int sta, .ref m17, .ref m18, .ref m19, .int shm])), (m6, .inl (G.2.1.1, 600, .inl (upd (upd (upd (upd text (Int32.toNatClampNeg len) (((p0 >>> ((24 : Int32) &&& 31)) : Int32) &&& 255)) (Int32.toNatClampNeg (len + 1)) (((p0 >>> ((16 : Int32) &&& 31)) : Int32) &&& 255)) (Int32.toNatClampNeg ((len + 1) + 1)) (((p0 >>> ((8 : Int32) &&& 31)) : Int32) &&& 255)) (Int32.toNatClampNeg (((len + 1) + 1) + 1)) (((p0 >>> ((0 : Int32) &&& 31)) : Int32) &&& 255))))] := hD
          refine lv_iinc (v := (-8)) (lv' := [(2, .int (-8)), (0, .ref m0), (1, .int p0)]) hx hb dX7_four_33 hl (k := 0) rfl rfl (by decide) rfl (fun ls hl => ?_)
          refine lv_goto (tgt := 3) hx hb dX7_four_36 (by decide) ?_
          refine lv_iload_n hx hb dX7_four_3 rfl (lv_at hl 0 rfl) ?_
          refine lv_if_lt (tgt := 39) hx hb dX7_four_4 (by decide) (fun c_5 => ?_) (fun c_5 => ?_)
          · skip
            exact gRetV F hr hlocks hK hP hD hS rfl rfl (Nat.le_of_ble_eq_true rfl) (Nat.le_of_ble_eq_true rfl) dX7_four_39
          · exact absurd c_5 (by decide)
theorem okV_X7_four : gOkV yX7_four cX7_four 3 none 1 := ⟨⟨k_im_X7_four, k_se_X7_four, k_in_X7, k_cd_X7_four⟩, by decide, by decide, by decide +kernel⟩
theorem four_len (len : Int32) (text : Nat → Int32) (p : Int32) : (f_X7_four len text p).1 = len + 4 := by
  show (((len + 1) + 1) + 1) + 1 = len + 4
  rw [Int32.add_assoc, Int32.add_assoc, Int32.add_assoc]
  rfl
theorem four_lenI {len : Int32} {text : Nat → Int32} {p : Int32} (h : 0 ≤ len.toInt ∧ len.toInt + 4 ≤ 600) : (f_X7_four len text p).1.toInt = len.toInt + 4 := by
  rw [four_len]
  have e : (4 : Int32).toInt = 4 := by decide
  rw [gI_add (by omega) (by omega), e]
def f_X7_append (len : Int32) (text : Nat → Int32) (p0 : Int32) (p1 : Int32) (p2 : Int32) (p3 : Int32) (p4 : Int32) : Int32 × Int32 × Int32 × (Nat → Int32) :=
  if (len + 20) ≤ 600 then
    ((f_X7_four ((f_X7_four ((f_X7_four ((f_X7_four ((f_X7_four len text p0).1) ((f_X7_four len text p0).2) p1).1) ((f_X7_four ((f_X7_four len text p0).1) ((f_X7_four len text p0).2) p1).2) p2).1) ((f_X7_four ((f_X7_four ((f_X7_four len text p0).1) ((f_X7_four len text p0).2) p1).1) ((f_X7_four ((f_X7_four len text p0).1) ((f_X7_four len text p0).2) p1).2) p2).2) p3).1) ((f_X7_four ((f_X7_four ((f_X7_four ((f_X7_four len text p0).1) ((f_X7_four len text p0).2) p1).1) ((f_X7_four ((f_X7_four len text p0).1) ((f_X7_four len text p0).2) p1).2) p2).1) ((f_X7_four ((f_X7_four ((f_X7_four len text p0).1) ((f_X7_four len text p0).2) p1).1) ((f_X7_four ((f_X7_four len text p0).1) ((f_X7_four len text p0).2) p1).2) p2).2) p3).2) p4).1, 0, (f_X7_four ((f_X7_four ((f_X7_four ((f_X7_four ((f_X7_four len text p0).1) ((f_X7_four len text p0).2) p1).1) ((f_X7_four ((f_X7_four len text p0).1) ((f_X7_four len text p0).2) p1).2) p2).1) ((f_X7_four ((f_X7_four ((f_X7_four len text p0).1) ((f_X7_four len text p0).2) p1).1) ((f_X7_four ((f_X7_four len text p0).1) ((f_X7_four len text p0).2) p1).2) p2).2) p3).1) ((f_X7_four ((f_X7_four ((f_X7_four ((f_X7_four len text p0).1) ((f_X7_four len text p0).2) p1).1) ((f_X7_four ((f_X7_four len text p0).1) ((f_X7_four len text p0).2) p1).2) p2).1) ((f_X7_four ((f_X7_four ((f_X7_four len text p0).1) ((f_X7_four len text p0).2) p1).1) ((f_X7_four ((f_X7_four len text p0).1) ((f_X7_four len text p0).2) p1).2) p2).2) p3).2) p4).1, (f_X7_four ((f_X7_four ((f_X7_four ((f_X7_four ((f_X7_four len text p0).1) ((f_X7_four len text p0).2) p1).1) ((f_X7_four ((f_X7_four len text p0).1) ((f_X7_four len text p0).2) p1).2) p2).1) ((f_X7_four ((f_X7_four ((f_X7_four len text p0).1) ((f_X7_four len text p0).2) p1).1) ((f_X7_four ((f_X7_four len text p0).1) ((f_X7_four len text p0).2) p1).2) p2).2) p3).1) ((f_X7_four ((f_X7_four ((f_X7_four ((f_X7_four len text p0).1) ((f_X7_four len text p0).2) p1).1) ((f_X7_four ((f_X7_four len text p0).1) ((f_X7_four len text p0).2) p1).2) p2).1) ((f_X7_four ((f_X7_four ((f_X7_four len text p0).1) ((f_X7_four len text p0).2) p1).1) ((f_X7_four ((f_X7_four len text p0).1) ((f_X7_four len text p0).2) p1).2) p2).2) p3).2) p4).2)
  else
    ((f_X7_fails 1).1, (f_X7_fails 1).2, len, text)
set_option maxRecDepth 100000 in
set_option maxHeartbeats 4000000 in
theorem c_X7_append (l : Launch) (G : gG) (m0 : Nat) (m1 : Nat) (m2 : Nat) (m3 : Nat) (m6 : Nat) (m13 : Nat) (m14 : Nat) (m17 : Nat) (m18 : Nat) (m19 : Nat) (rz : Int32) (hf : Int32) (hs : Int32) (len : Int32) (ec : Int32) (ep : Int32) (pos : Int32) (bg : Int32) (bad : Int32) (plc : Int32) (sta : Int32) (shm : Int32) (text : Nat → Int32) (p0 : Int32) (p1 : Int32) (p2 : Int32) (p3 : Int32) (p4 : Int32) (hlen : 0 ≤ len.toInt ∧ len.toInt ≤ 600) : gM l G yX7_append cX7_append 6 (some .int) { frames := 1, cells := 0, slots := 0, locals := 22 } [.ref m0, .int p0, .int p1, .int p2, .int p3, .int p4] [(m0, .inr (10, [.int rz, .ref m1, .ref m2, .ref m3, .int hf, .int hs, .ref m6, .int len, .int ec, .int ep, .int pos, .int bg, .int bad, .ref m13, .ref m14, .int plc, .int sta, .ref m17, .ref m18, .ref m19, .int shm])), (m6, .inl (G.2.1.1, 600, .inl text))] (some (.int ((f_X7_append len text p0 p1 p2 p3 p4).1))) [(m0, .inr (10, [.int ((f_X7_append len text p0 p1 p2 p3 p4).2.1), .ref m1, .ref m2, .ref m3, .int hf, .int hs, .ref m6, .int ((f_X7_append len text p0 p1 p2 p3 p4).2.2.1), .int ec, .int ep, .int pos, .int bg, .int bad, .ref m13, .ref m14, .int plc, .int sta, .ref m17, .ref m18, .ref m19, .int shm])), (m6, .inl (G.2.1.1, 600, .inl ((f_X7_append len text p0 p1 p2 p3 p4).2.2.2)))] 0 0 := by
  refine gBegin (by decide +kernel) (Nat.le_of_ble_eq_true rfl) (fun p e s m args below meth c A F hr hlocks hname hN hK hP hD hA hS ls hl => ?_)
  obtain ⟨hx, hb, hml, hown, hts⟩ := id F
  replace hP : va_P G.1 vwCl [(m0, .inr (10, [.int rz, .ref m1, .ref m2, .ref m3, .int hf, .int hs, .ref m6, .int len, .int ec, .int ep, .int pos, .int bg, .int bad, .ref m13, .ref m14, .int plc, .int sta, .ref m17, .ref m18, .ref m19, .int shm])), (m6, .inl (G.2.1.1, 600, .inl text))] s.heap := hP
  replace hl : lv_has ls 6 [(0, .ref m0), (1, .int p0), (2, .int p1), (3, .int p2), (4, .int p3), (5, .int p4)] := hl
  refine lv_aload_n hx hb dX7_append_0 rfl (lv_at hl 0 rfl) ?_
  refine lv_iconst (v := 0) hx hb dX7_append_1 (by decide) ?_
  refine va_put (D := G.1) (ci := 10) (v := .int 0) (ty := .int) (C := RX7) (T := TX7) (N := 21) hx hb hts in_X7 tyX7 tyX7_ok nmX7 hown hK hP hD hS 0 rfl rfl 0 (by decide) (hts _ k_fl_X7_76) (fun _ h9 => h9) rfl (by decide +kernel) rfl rfl (Nat.le_of_ble_eq_true rfl) dX7_append_2 (fun H locs hP hD hS => ?_)
  replace hP : va_P G.1 vwCl [(m0, .inr (10, [.int 0, .ref m1, .ref m2, .ref m3, .int hf, .int hs, .ref m6, .int len, .int ec, .int ep, .int pos, .int bg, .int bad, .ref m13, .ref m14, .int plc, .int sta, .ref m17, .ref m18, .ref m19, .int shm])), (m6, .inl (G.2.1.1, 600, .inl text))] H := hP
  replace hD : va_D A [(m0, .inr (10, [.int 0, .ref m1, .ref m2, .ref m3, .int hf, .int hs, .ref m6, .int len, .int ec, .int ep, .int pos, .int bg, .int bad, .ref m13, .ref m14, .int plc, .int sta, .ref m17, .ref m18, .ref m19, .int shm])), (m6, .inl (G.2.1.1, 600, .inl text))] := hD
  refine lv_aload_n hx hb dX7_append_5 rfl (lv_at hl 0 rfl) ?_
  refine va_get (D := G.1) (ci := 10) (v := .int len) (C := RX7) (T := TX7) (N := 21) hx hb hts in_X7 hown hK hP 0 rfl rfl 7 (by decide) (hts _ k_fl_X7_95) (fun _ h9 => h9) rfl dX7_append_6 ?_
  refine lv_bipush (v := 20) hx hb dX7_append_9 (by decide) ?_
  refine lv_iadd hx hb dX7_append_11 ?_
  refine lv_sipush (v := 600) hx hb dX7_append_12 (by decide) ?_
  refine lv_icmp_le (tgt := 24) hx hb dX7_append_15 (by decide) (fun c_1 => ?_) (fun c_1 => ?_)
  · skip
    refine lv_aload_n hx hb dX7_append_24 rfl (lv_at hl 0 rfl) ?_
    refine lv_iload_n hx hb dX7_append_25 rfl (lv_at hl 1 rfl) ?_
    refine gV (As := [.int p0]) (rest := []) (wr := []) (ws' := [(m0, .inr (10, [.int 0, .ref m1, .ref m2, .ref m3, .int hf, .int hs, .ref m6, .int ((f_X7_four len text p0).1), .int ec, .int ep, .int pos, .int bg, .int bad, .ref m13, .ref m14, .int plc, .int sta, .ref m17, .ref m18, .ref m19, .int shm])), (m6, .inl (G.2.1.1, 600, .inl ((f_X7_four len text p0).2)))]) F (c_X7_four l G m0 m1 m2 m3 m6 m13 m14 m17 m18 m19 0 hf hs len ec ep pos bg bad plc sta shm text p0 (by have z1 : (20 : Int32).toInt = 20 := (by decide); (try have z2 := gI_add (x := len) (y := 20) (by omega) (by omega)); have z3 : (600 : Int32).toInt = 600 := (by decide); have qc_1 := c_1; (try rw [gI_le] at qc_1); have a0 := four_lenI (len := len) (text := text) (p := p0) (by omega); have a1 := four_lenI (len := (f_X7_four len text p0).1) (text := (f_X7_four len text p0).2) (p := p1) (by omega); have a2 := four_lenI (len := (f_X7_four (f_X7_four len text p0).1 (f_X7_four len text p0).2 p1).1) (text := (f_X7_four (f_X7_four len text p0).1 (f_X7_four len text p0).2 p1).2) (p := p2) (by omega); have a3 := four_lenI (len := (f_X7_four (f_X7_four (f_X7_four len text p0).1 (f_X7_four len text p0).2 p1).1 (f_X7_four (f_X7_four len text p0).1 (f_X7_four len text p0).2 p1).2 p2).1) (text := (f_X7_four (f_X7_four (f_X7_four len text p0).1 (f_X7_four len text p0).2 p1).1 (f_X7_four (f_X7_four len text p0).1 (f_X7_four len text p0).2 p1).2 p2).2) (p := p3) (by omega); have a4 := four_lenI (len := (f_X7_four (f_X7_four (f_X7_four (f_X7_four len text p0).1 (f_X7_four len text p0).2 p1).1 (f_X7_four (f_X7_four len text p0).1 (f_X7_four len text p0).2 p1).2 p2).1 (f_X7_four (f_X7_four (f_X7_four len text p0).1 (f_X7_four len text p0).2 p1).1 (f_X7_four (f_X7_four len text p0).1 (f_X7_four len text p0).2 p1).2 p2).2 p3).1) (text := (f_X7_four (f_X7_four (f_X7_four (f_X7_four len text p0).1 (f_X7_four len text p0).2 p1).1 (f_X7_four (f_X7_four len text p0).1 (f_X7_four len text p0).2 p1).2 p2).1 (f_X7_four (f_X7_four (f_X7_four len text p0).1 (f_X7_four len text p0).2 p1).1 (f_X7_four (f_X7_four len text p0).1 (f_X7_four len text p0).2 p1).2 p2).2 p3).2) (p := p4) (by omega); omega)) okV_X7_four k_ml_X7_102 rfl rfl ⟨Nat.le_of_ble_eq_true rfl, Nat.le_of_ble_eq_true rfl⟩ hN hK hP hD hS hA [0, 1] [] [0, 1] (by decide) rfl rfl (by decide) (by decide) (by decide) rfl (q0 := 0) rfl rfl rfl rfl hl.1 (Nat.le_of_ble_eq_true rfl) dX7_append_26 ⟨Nat.le_refl _, Nat.le_refl _⟩ (fun H locs hP hD hS => ?_)
    refine lv_aload_n hx hb dX7_append_29 rfl (lv_at hl 0 rfl) ?_
    refine lv_iload_n hx hb dX7_append_30 rfl (lv_at hl 2 rfl) ?_
    refine gV (As := [.int p1]) (rest := []) (wr := []) (ws' := [(m0, .inr (10, [.int 0, .ref m1, .ref m2, .ref m3, .int hf, .int hs, .ref m6, .int ((f_X7_four ((f_X7_four len text p0).1) ((f_X7_four len text p0).2) p1).1), .int ec, .int ep, .int pos, .int bg, .int bad, .ref m13, .ref m14, .int plc, .int sta, .ref m17, .ref m18, .ref m19, .int shm])), (m6, .inl (G.2.1.1, 600, .inl ((f_X7_four ((f_X7_four len text p0).1) ((f_X7_four len text p0).2) p1).2)))]) F (c_X7_four l G m0 m1 m2 m3 m6 m13 m14 m17 m18 m19 0 hf hs ((f_X7_four len text p0).1) ec ep pos bg bad plc sta shm ((f_X7_four len text p0).2) p1 (by have z1 : (20 : Int32).toInt = 20 := (by decide); (try have z2 := gI_add (x := len) (y := 20) (by omega) (by omega)); have z3 : (600 : Int32).toInt = 600 := (by decide); have qc_1 := c_1; (try rw [gI_le] at qc_1); have a0 := four_lenI (len := len) (text := text) (p := p0) (by omega); have a1 := four_lenI (len := (f_X7_four len text p0).1) (text := (f_X7_four len text p0).2) (p := p1) (by omega); have a2 := four_lenI (len := (f_X7_four (f_X7_four len text p0).1 (f_X7_four len text p0).2 p1).1) (text := (f_X7_four (f_X7_four len text p0).1 (f_X7_four len text p0).2 p1).2) (p := p2) (by omega); have a3 := four_lenI (len := (f_X7_four (f_X7_four (f_X7_four len text p0).1 (f_X7_four len text p0).2 p1).1 (f_X7_four (f_X7_four len text p0).1 (f_X7_four len text p0).2 p1).2 p2).1) (text := (f_X7_four (f_X7_four (f_X7_four len text p0).1 (f_X7_four len text p0).2 p1).1 (f_X7_four (f_X7_four len text p0).1 (f_X7_four len text p0).2 p1).2 p2).2) (p := p3) (by omega); have a4 := four_lenI (len := (f_X7_four (f_X7_four (f_X7_four (f_X7_four len text p0).1 (f_X7_four len text p0).2 p1).1 (f_X7_four (f_X7_four len text p0).1 (f_X7_four len text p0).2 p1).2 p2).1 (f_X7_four (f_X7_four (f_X7_four len text p0).1 (f_X7_four len text p0).2 p1).1 (f_X7_four (f_X7_four len text p0).1 (f_X7_four len text p0).2 p1).2 p2).2 p3).1) (text := (f_X7_four (f_X7_four (f_X7_four (f_X7_four len text p0).1 (f_X7_four len text p0).2 p1).1 (f_X7_four (f_X7_four len text p0).1 (f_X7_four len text p0).2 p1).2 p2).1 (f_X7_four (f_X7_four (f_X7_four len text p0).1 (f_X7_four len text p0).2 p1).1 (f_X7_four (f_X7_four len text p0).1 (f_X7_four len text p0).2 p1).2 p2).2 p3).2) (p := p4) (by omega); omega)) okV_X7_four k_ml_X7_102 rfl rfl ⟨Nat.le_of_ble_eq_true rfl, Nat.le_of_ble_eq_true rfl⟩ hN hK hP hD hS hA [0, 1] [] [0, 1] (by decide) rfl rfl (by decide) (by decide) (by decide) rfl (q0 := 0) rfl rfl rfl rfl hl.1 (Nat.le_of_ble_eq_true rfl) dX7_append_31 ⟨Nat.le_refl _, Nat.le_refl _⟩ (fun H locs hP hD hS => ?_)
    refine lv_aload_n hx hb dX7_append_34 rfl (lv_at hl 0 rfl) ?_
    refine lv_iload_n hx hb dX7_append_35 rfl (lv_at hl 3 rfl) ?_
    refine gV (As := [.int p2]) (rest := []) (wr := []) (ws' := [(m0, .inr (10, [.int 0, .ref m1, .ref m2, .ref m3, .int hf, .int hs, .ref m6, .int ((f_X7_four ((f_X7_four ((f_X7_four len text p0).1) ((f_X7_four len text p0).2) p1).1) ((f_X7_four ((f_X7_four len text p0).1) ((f_X7_four len text p0).2) p1).2) p2).1), .int ec, .int ep, .int pos, .int bg, .int bad, .ref m13, .ref m14, .int plc, .int sta, .ref m17, .ref m18, .ref m19, .int shm])), (m6, .inl (G.2.1.1, 600, .inl ((f_X7_four ((f_X7_four ((f_X7_four len text p0).1) ((f_X7_four len text p0).2) p1).1) ((f_X7_four ((f_X7_four len text p0).1) ((f_X7_four len text p0).2) p1).2) p2).2)))]) F (c_X7_four l G m0 m1 m2 m3 m6 m13 m14 m17 m18 m19 0 hf hs ((f_X7_four ((f_X7_four len text p0).1) ((f_X7_four len text p0).2) p1).1) ec ep pos bg bad plc sta shm ((f_X7_four ((f_X7_four len text p0).1) ((f_X7_four len text p0).2) p1).2) p2 (by have z1 : (20 : Int32).toInt = 20 := (by decide); (try have z2 := gI_add (x := len) (y := 20) (by omega) (by omega)); have z3 : (600 : Int32).toInt = 600 := (by decide); have qc_1 := c_1; (try rw [gI_le] at qc_1); have a0 := four_lenI (len := len) (text := text) (p := p0) (by omega); have a1 := four_lenI (len := (f_X7_four len text p0).1) (text := (f_X7_four len text p0).2) (p := p1) (by omega); have a2 := four_lenI (len := (f_X7_four (f_X7_four len text p0).1 (f_X7_four len text p0).2 p1).1) (text := (f_X7_four (f_X7_four len text p0).1 (f_X7_four len text p0).2 p1).2) (p := p2) (by omega); have a3 := four_lenI (len := (f_X7_four (f_X7_four (f_X7_four len text p0).1 (f_X7_four len text p0).2 p1).1 (f_X7_four (f_X7_four len text p0).1 (f_X7_four len text p0).2 p1).2 p2).1) (text := (f_X7_four (f_X7_four (f_X7_four len text p0).1 (f_X7_four len text p0).2 p1).1 (f_X7_four (f_X7_four len text p0).1 (f_X7_four len text p0).2 p1).2 p2).2) (p := p3) (by omega); have a4 := four_lenI (len := (f_X7_four (f_X7_four (f_X7_four (f_X7_four len text p0).1 (f_X7_four len text p0).2 p1).1 (f_X7_four (f_X7_four len text p0).1 (f_X7_four len text p0).2 p1).2 p2).1 (f_X7_four (f_X7_four (f_X7_four len text p0).1 (f_X7_four len text p0).2 p1).1 (f_X7_four (f_X7_four len text p0).1 (f_X7_four len text p0).2 p1).2 p2).2 p3).1) (text := (f_X7_four (f_X7_four (f_X7_four (f_X7_four len text p0).1 (f_X7_four len text p0).2 p1).1 (f_X7_four (f_X7_four len text p0).1 (f_X7_four len text p0).2 p1).2 p2).1 (f_X7_four (f_X7_four (f_X7_four len text p0).1 (f_X7_four len text p0).2 p1).1 (f_X7_four (f_X7_four len text p0).1 (f_X7_four len text p0).2 p1).2 p2).2 p3).2) (p := p4) (by omega); omega)) okV_X7_four k_ml_X7_102 rfl rfl ⟨Nat.le_of_ble_eq_true rfl, Nat.le_of_ble_eq_true rfl⟩ hN hK hP hD hS hA [0, 1] [] [0, 1] (by decide) rfl rfl (by decide) (by decide) (by decide) rfl (q0 := 0) rfl rfl rfl rfl hl.1 (Nat.le_of_ble_eq_true rfl) dX7_append_36 ⟨Nat.le_refl _, Nat.le_refl _⟩ (fun H locs hP hD hS => ?_)
    refine lv_aload_n hx hb dX7_append_39 rfl (lv_at hl 0 rfl) ?_
    refine lv_iload hx hb dX7_append_40 (lv_at hl 4 rfl) ?_
    refine gV (As := [.int p3]) (rest := []) (wr := []) (ws' := [(m0, .inr (10, [.int 0, .ref m1, .ref m2, .ref m3, .int hf, .int hs, .ref m6, .int ((f_X7_four ((f_X7_four ((f_X7_four ((f_X7_four len text p0).1) ((f_X7_four len text p0).2) p1).1) ((f_X7_four ((f_X7_four len text p0).1) ((f_X7_four len text p0).2) p1).2) p2).1) ((f_X7_four ((f_X7_four ((f_X7_four len text p0).1) ((f_X7_four len text p0).2) p1).1) ((f_X7_four ((f_X7_four len text p0).1) ((f_X7_four len text p0).2) p1).2) p2).2) p3).1), .int ec, .int ep, .int pos, .int bg, .int bad, .ref m13, .ref m14, .int plc, .int sta, .ref m17, .ref m18, .ref m19, .int shm])), (m6, .inl (G.2.1.1, 600, .inl ((f_X7_four ((f_X7_four ((f_X7_four ((f_X7_four len text p0).1) ((f_X7_four len text p0).2) p1).1) ((f_X7_four ((f_X7_four len text p0).1) ((f_X7_four len text p0).2) p1).2) p2).1) ((f_X7_four ((f_X7_four ((f_X7_four len text p0).1) ((f_X7_four len text p0).2) p1).1) ((f_X7_four ((f_X7_four len text p0).1) ((f_X7_four len text p0).2) p1).2) p2).2) p3).2)))]) F (c_X7_four l G m0 m1 m2 m3 m6 m13 m14 m17 m18 m19 0 hf hs ((f_X7_four ((f_X7_four ((f_X7_four len text p0).1) ((f_X7_four len text p0).2) p1).1) ((f_X7_four ((f_X7_four len text p0).1) ((f_X7_four len text p0).2) p1).2) p2).1) ec ep pos bg bad plc sta shm ((f_X7_four ((f_X7_four ((f_X7_four len text p0).1) ((f_X7_four len text p0).2) p1).1) ((f_X7_four ((f_X7_four len text p0).1) ((f_X7_four len text p0).2) p1).2) p2).2) p3 (by have z1 : (20 : Int32).toInt = 20 := (by decide); (try have z2 := gI_add (x := len) (y := 20) (by omega) (by omega)); have z3 : (600 : Int32).toInt = 600 := (by decide); have qc_1 := c_1; (try rw [gI_le] at qc_1); have a0 := four_lenI (len := len) (text := text) (p := p0) (by omega); have a1 := four_lenI (len := (f_X7_four len text p0).1) (text := (f_X7_four len text p0).2) (p := p1) (by omega); have a2 := four_lenI (len := (f_X7_four (f_X7_four len text p0).1 (f_X7_four len text p0).2 p1).1) (text := (f_X7_four (f_X7_four len text p0).1 (f_X7_four len text p0).2 p1).2) (p := p2) (by omega); have a3 := four_lenI (len := (f_X7_four (f_X7_four (f_X7_four len text p0).1 (f_X7_four len text p0).2 p1).1 (f_X7_four (f_X7_four len text p0).1 (f_X7_four len text p0).2 p1).2 p2).1) (text := (f_X7_four (f_X7_four (f_X7_four len text p0).1 (f_X7_four len text p0).2 p1).1 (f_X7_four (f_X7_four len text p0).1 (f_X7_four len text p0).2 p1).2 p2).2) (p := p3) (by omega); have a4 := four_lenI (len := (f_X7_four (f_X7_four (f_X7_four (f_X7_four len text p0).1 (f_X7_four len text p0).2 p1).1 (f_X7_four (f_X7_four len text p0).1 (f_X7_four len text p0).2 p1).2 p2).1 (f_X7_four (f_X7_four (f_X7_four len text p0).1 (f_X7_four len text p0).2 p1).1 (f_X7_four (f_X7_four len text p0).1 (f_X7_four len text p0).2 p1).2 p2).2 p3).1) (text := (f_X7_four (f_X7_four (f_X7_four (f_X7_four len text p0).1 (f_X7_four len text p0).2 p1).1 (f_X7_four (f_X7_four len text p0).1 (f_X7_four len text p0).2 p1).2 p2).1 (f_X7_four (f_X7_four (f_X7_four len text p0).1 (f_X7_four len text p0).2 p1).1 (f_X7_four (f_X7_four len text p0).1 (f_X7_four len text p0).2 p1).2 p2).2 p3).2) (p := p4) (by omega); omega)) okV_X7_four k_ml_X7_102 rfl rfl ⟨Nat.le_of_ble_eq_true rfl, Nat.le_of_ble_eq_true rfl⟩ hN hK hP hD hS hA [0, 1] [] [0, 1] (by decide) rfl rfl (by decide) (by decide) (by decide) rfl (q0 := 0) rfl rfl rfl rfl hl.1 (Nat.le_of_ble_eq_true rfl) dX7_append_42 ⟨Nat.le_refl _, Nat.le_refl _⟩ (fun H locs hP hD hS => ?_)
    refine lv_aload_n hx hb dX7_append_45 rfl (lv_at hl 0 rfl) ?_
    refine lv_iload hx hb dX7_append_46 (lv_at hl 5 rfl) ?_
    refine gV (As := [.int p4]) (rest := []) (wr := []) (ws' := [(m0, .inr (10, [.int 0, .ref m1, .ref m2, .ref m3, .int hf, .int hs, .ref m6, .int ((f_X7_four ((f_X7_four ((f_X7_four ((f_X7_four ((f_X7_four len text p0).1) ((f_X7_four len text p0).2) p1).1) ((f_X7_four ((f_X7_four len text p0).1) ((f_X7_four len text p0).2) p1).2) p2).1) ((f_X7_four ((f_X7_four ((f_X7_four len text p0).1) ((f_X7_four len text p0).2) p1).1) ((f_X7_four ((f_X7_four len text p0).1) ((f_X7_four len text p0).2) p1).2) p2).2) p3).1) ((f_X7_four ((f_X7_four ((f_X7_four ((f_X7_four len text p0).1) ((f_X7_four len text p0).2) p1).1) ((f_X7_four ((f_X7_four len text p0).1) ((f_X7_four len text p0).2) p1).2) p2).1) ((f_X7_four ((f_X7_four ((f_X7_four len text p0).1) ((f_X7_four len text p0).2) p1).1) ((f_X7_four ((f_X7_four len text p0).1) ((f_X7_four len text p0).2) p1).2) p2).2) p3).2) p4).1), .int ec, .int ep, .int pos, .int bg, .int bad, .ref m13, .ref m14, .int plc, .int sta, .ref m17, .ref m18, .ref m19, .int shm])), (m6, .inl (G.2.1.1, 600, .inl ((f_X7_four ((f_X7_four ((f_X7_four ((f_X7_four ((f_X7_four len text p0).1) ((f_X7_four len text p0).2) p1).1) ((f_X7_four ((f_X7_four len text p0).1) ((f_X7_four len text p0).2) p1).2) p2).1) ((f_X7_four ((f_X7_four ((f_X7_four len text p0).1) ((f_X7_four len text p0).2) p1).1) ((f_X7_four ((f_X7_four len text p0).1) ((f_X7_four len text p0).2) p1).2) p2).2) p3).1) ((f_X7_four ((f_X7_four ((f_X7_four ((f_X7_four len text p0).1) ((f_X7_four len text p0).2) p1).1) ((f_X7_four ((f_X7_four len text p0).1) ((f_X7_four len text p0).2) p1).2) p2).1) ((f_X7_four ((f_X7_four ((f_X7_four len text p0).1) ((f_X7_four len text p0).2) p1).1) ((f_X7_four ((f_X7_four len text p0).1) ((f_X7_four len text p0).2) p1).2) p2).2) p3).2) p4).2)))]) F (c_X7_four l G m0 m1 m2 m3 m6 m13 m14 m17 m18 m19 0 hf hs ((f_X7_four ((f_X7_four ((f_X7_four ((f_X7_four len text p0).1) ((f_X7_four len text p0).2) p1).1) ((f_X7_four ((f_X7_four len text p0).1) ((f_X7_four len text p0).2) p1).2) p2).1) ((f_X7_four ((f_X7_four ((f_X7_four len text p0).1) ((f_X7_four len text p0).2) p1).1) ((f_X7_four ((f_X7_four len text p0).1) ((f_X7_four len text p0).2) p1).2) p2).2) p3).1) ec ep pos bg bad plc sta shm ((f_X7_four ((f_X7_four ((f_X7_four ((f_X7_four len text p0).1) ((f_X7_four len text p0).2) p1).1) ((f_X7_four ((f_X7_four len text p0).1) ((f_X7_four len text p0).2) p1).2) p2).1) ((f_X7_four ((f_X7_four ((f_X7_four len text p0).1) ((f_X7_four len text p0).2) p1).1) ((f_X7_four ((f_X7_four len text p0).1) ((f_X7_four len text p0).2) p1).2) p2).2) p3).2) p4 (by have z1 : (20 : Int32).toInt = 20 := (by decide); (try have z2 := gI_add (x := len) (y := 20) (by omega) (by omega)); have z3 : (600 : Int32).toInt = 600 := (by decide); have qc_1 := c_1; (try rw [gI_le] at qc_1); have a0 := four_lenI (len := len) (text := text) (p := p0) (by omega); have a1 := four_lenI (len := (f_X7_four len text p0).1) (text := (f_X7_four len text p0).2) (p := p1) (by omega); have a2 := four_lenI (len := (f_X7_four (f_X7_four len text p0).1 (f_X7_four len text p0).2 p1).1) (text := (f_X7_four (f_X7_four len text p0).1 (f_X7_four len text p0).2 p1).2) (p := p2) (by omega); have a3 := four_lenI (len := (f_X7_four (f_X7_four (f_X7_four len text p0).1 (f_X7_four len text p0).2 p1).1 (f_X7_four (f_X7_four len text p0).1 (f_X7_four len text p0).2 p1).2 p2).1) (text := (f_X7_four (f_X7_four (f_X7_four len text p0).1 (f_X7_four len text p0).2 p1).1 (f_X7_four (f_X7_four len text p0).1 (f_X7_four len text p0).2 p1).2 p2).2) (p := p3) (by omega); have a4 := four_lenI (len := (f_X7_four (f_X7_four (f_X7_four (f_X7_four len text p0).1 (f_X7_four len text p0).2 p1).1 (f_X7_four (f_X7_four len text p0).1 (f_X7_four len text p0).2 p1).2 p2).1 (f_X7_four (f_X7_four (f_X7_four len text p0).1 (f_X7_four len text p0).2 p1).1 (f_X7_four (f_X7_four len text p0).1 (f_X7_four len text p0).2 p1).2 p2).2 p3).1) (text := (f_X7_four (f_X7_four (f_X7_four (f_X7_four len text p0).1 (f_X7_four len text p0).2 p1).1 (f_X7_four (f_X7_four len text p0).1 (f_X7_four len text p0).2 p1).2 p2).1 (f_X7_four (f_X7_four (f_X7_four len text p0).1 (f_X7_four len text p0).2 p1).1 (f_X7_four (f_X7_four len text p0).1 (f_X7_four len text p0).2 p1).2 p2).2 p3).2) (p := p4) (by omega); omega)) okV_X7_four k_ml_X7_102 rfl rfl ⟨Nat.le_of_ble_eq_true rfl, Nat.le_of_ble_eq_true rfl⟩ hN hK hP hD hS hA [0, 1] [] [0, 1] (by decide) rfl rfl (by decide) (by decide) (by decide) rfl (q0 := 0) rfl rfl rfl rfl hl.1 (Nat.le_of_ble_eq_true rfl) dX7_append_48 ⟨Nat.le_refl _, Nat.le_refl _⟩ (fun H locs hP hD hS => ?_)
    refine lv_aload_n hx hb dX7_append_51 rfl (lv_at hl 0 rfl) ?_
    refine va_get (D := G.1) (ci := 10) (v := .int ((f_X7_four ((f_X7_four ((f_X7_four ((f_X7_four ((f_X7_four len text p0).1) ((f_X7_four len text p0).2) p1).1) ((f_X7_four ((f_X7_four len text p0).1) ((f_X7_four len text p0).2) p1).2) p2).1) ((f_X7_four ((f_X7_four ((f_X7_four len text p0).1) ((f_X7_four len text p0).2) p1).1) ((f_X7_four ((f_X7_four len text p0).1) ((f_X7_four len text p0).2) p1).2) p2).2) p3).1) ((f_X7_four ((f_X7_four ((f_X7_four ((f_X7_four len text p0).1) ((f_X7_four len text p0).2) p1).1) ((f_X7_four ((f_X7_four len text p0).1) ((f_X7_four len text p0).2) p1).2) p2).1) ((f_X7_four ((f_X7_four ((f_X7_four len text p0).1) ((f_X7_four len text p0).2) p1).1) ((f_X7_four ((f_X7_four len text p0).1) ((f_X7_four len text p0).2) p1).2) p2).2) p3).2) p4).1)) (C := RX7) (T := TX7) (N := 21) hx hb hts in_X7 hown hK hP 0 rfl rfl 7 (by decide) (hts _ k_fl_X7_95) (fun _ h9 => h9) rfl dX7_append_52 ?_
    have ef : (f_X7_append len text p0 p1 p2 p3 p4) = ((f_X7_four ((f_X7_four ((f_X7_four ((f_X7_four ((f_X7_four len text p0).1) ((f_X7_four len text p0).2) p1).1) ((f_X7_four ((f_X7_four len text p0).1) ((f_X7_four len text p0).2) p1).2) p2).1) ((f_X7_four ((f_X7_four ((f_X7_four len text p0).1) ((f_X7_four len text p0).2) p1).1) ((f_X7_four ((f_X7_four len text p0).1) ((f_X7_four len text p0).2) p1).2) p2).2) p3).1) ((f_X7_four ((f_X7_four ((f_X7_four ((f_X7_four len text p0).1) ((f_X7_four len text p0).2) p1).1) ((f_X7_four ((f_X7_four len text p0).1) ((f_X7_four len text p0).2) p1).2) p2).1) ((f_X7_four ((f_X7_four ((f_X7_four len text p0).1) ((f_X7_four len text p0).2) p1).1) ((f_X7_four ((f_X7_four len text p0).1) ((f_X7_four len text p0).2) p1).2) p2).2) p3).2) p4).1, 0, (f_X7_four ((f_X7_four ((f_X7_four ((f_X7_four ((f_X7_four len text p0).1) ((f_X7_four len text p0).2) p1).1) ((f_X7_four ((f_X7_four len text p0).1) ((f_X7_four len text p0).2) p1).2) p2).1) ((f_X7_four ((f_X7_four ((f_X7_four len text p0).1) ((f_X7_four len text p0).2) p1).1) ((f_X7_four ((f_X7_four len text p0).1) ((f_X7_four len text p0).2) p1).2) p2).2) p3).1) ((f_X7_four ((f_X7_four ((f_X7_four ((f_X7_four len text p0).1) ((f_X7_four len text p0).2) p1).1) ((f_X7_four ((f_X7_four len text p0).1) ((f_X7_four len text p0).2) p1).2) p2).1) ((f_X7_four ((f_X7_four ((f_X7_four len text p0).1) ((f_X7_four len text p0).2) p1).1) ((f_X7_four ((f_X7_four len text p0).1) ((f_X7_four len text p0).2) p1).2) p2).2) p3).2) p4).1, (f_X7_four ((f_X7_four ((f_X7_four ((f_X7_four ((f_X7_four len text p0).1) ((f_X7_four len text p0).2) p1).1) ((f_X7_four ((f_X7_four len text p0).1) ((f_X7_four len text p0).2) p1).2) p2).1) ((f_X7_four ((f_X7_four ((f_X7_four len text p0).1) ((f_X7_four len text p0).2) p1).1) ((f_X7_four ((f_X7_four len text p0).1) ((f_X7_four len text p0).2) p1).2) p2).2) p3).1) ((f_X7_four ((f_X7_four ((f_X7_four ((f_X7_four len text p0).1) ((f_X7_four len text p0).2) p1).1) ((f_X7_four ((f_X7_four len text p0).1) ((f_X7_four len text p0).2) p1).2) p2).1) ((f_X7_four ((f_X7_four ((f_X7_four len text p0).1) ((f_X7_four len text p0).2) p1).1) ((f_X7_four ((f_X7_four len text p0).1) ((f_X7_four len text p0).2) p1).2) p2).2) p3).2) p4).2) := (if_pos c_1)
    exact gRetI F hr hlocks hK hP hD hS (by rw [ef]) (by rw [ef]) (Nat.le_of_ble_eq_true rfl) (Nat.le_of_ble_eq_true rfl) dX7_append_55
  · skip
    refine lv_aload_n hx hb dX7_append_18 rfl (lv_at hl 0 rfl) ?_
    refine lv_iconst (v := 1) hx hb dX7_append_19 (by decide) ?_
    refine gV (As := [.int 1]) (rest := []) (wr := [(m6, .inl (G.2.1.1, 600, .inl text))]) (ws' := [(m0, .inr (10, [.int ((f_X7_fails 1).2), .ref m1, .ref m2, .ref m3, .int hf, .int hs, .ref m6, .int len, .int ec, .int ep, .int pos, .int bg, .int bad, .ref m13, .ref m14, .int plc, .int sta, .ref m17, .ref m18, .ref m19, .int shm])), (m6, .inl (G.2.1.1, 600, .inl text))]) F (c_X7_fails l G m0 m1 m2 m3 m6 m13 m14 m17 m18 m19 0 hf hs len ec ep pos bg bad plc sta shm 1) okV_X7_fails k_ml_X7_98 rfl rfl ⟨Nat.le_of_ble_eq_true rfl, Nat.le_of_ble_eq_true rfl⟩ hN hK hP hD hS hA [0] [1] [1, 0] (by decide) rfl rfl (by decide) (by decide) (by decide) rfl (q0 := 0) rfl rfl rfl rfl hl.1 (Nat.le_of_ble_eq_true rfl) dX7_append_20 ⟨Nat.le_refl _, Nat.le_refl _⟩ (fun H locs hP hD hS => ?_)
    have ef : (f_X7_append len text p0 p1 p2 p3 p4) = ((f_X7_fails 1).1, (f_X7_fails 1).2, len, text) := (if_neg c_1)
    exact gRetI F hr hlocks hK hP hD hS (by rw [ef]) (by rw [ef]) (Nat.le_of_ble_eq_true rfl) (Nat.le_of_ble_eq_true rfl) dX7_append_23
theorem okV_X7_append : gOkV yX7_append cX7_append 6 (some .int) 5 := ⟨⟨k_im_X7_append, k_se_X7_append, k_in_X7, k_cd_X7_append⟩, by decide, by decide, by decide +kernel⟩
def f_X7_truncate (len : Int32) (p0 : Int32) : Int32 × Int32 × Int32 :=
  if (f_X7_in (Int32.toInt64 p0) 0 (Int32.toInt64 len)) = 0 then
    ((f_X7_fails 1).1, (f_X7_fails 1).2, len)
  else
    (p0, 0, p0)
set_option maxRecDepth 100000 in
set_option maxHeartbeats 4000000 in
theorem c_X7_truncate (l : Launch) (G : gG) (m0 : Nat) (m1 : Nat) (m2 : Nat) (m3 : Nat) (m6 : Nat) (m13 : Nat) (m14 : Nat) (m17 : Nat) (m18 : Nat) (m19 : Nat) (rz : Int32) (hf : Int32) (hs : Int32) (len : Int32) (ec : Int32) (ep : Int32) (pos : Int32) (bg : Int32) (bad : Int32) (plc : Int32) (sta : Int32) (shm : Int32) (p0 : Int32) : gM l G yX7_truncate cX7_truncate 2 (some .int) { frames := 1, cells := 0, slots := 0, locals := 25 } [.ref m0, .int p0] [(m0, .inr (10, [.int rz, .ref m1, .ref m2, .ref m3, .int hf, .int hs, .ref m6, .int len, .int ec, .int ep, .int pos, .int bg, .int bad, .ref m13, .ref m14, .int plc, .int sta, .ref m17, .ref m18, .ref m19, .int shm]))] (some (.int ((f_X7_truncate len p0).1))) [(m0, .inr (10, [.int ((f_X7_truncate len p0).2.1), .ref m1, .ref m2, .ref m3, .int hf, .int hs, .ref m6, .int ((f_X7_truncate len p0).2.2), .int ec, .int ep, .int pos, .int bg, .int bad, .ref m13, .ref m14, .int plc, .int sta, .ref m17, .ref m18, .ref m19, .int shm]))] 0 0 := by
  refine gBegin (by decide +kernel) (Nat.le_of_ble_eq_true rfl) (fun p e s m args below meth c A F hr hlocks hname hN hK hP hD hA hS ls hl => ?_)
  obtain ⟨hx, hb, hml, hown, hts⟩ := id F
  replace hP : va_P G.1 vwCl [(m0, .inr (10, [.int rz, .ref m1, .ref m2, .ref m3, .int hf, .int hs, .ref m6, .int len, .int ec, .int ep, .int pos, .int bg, .int bad, .ref m13, .ref m14, .int plc, .int sta, .ref m17, .ref m18, .ref m19, .int shm]))] s.heap := hP
  replace hl : lv_has ls 2 [(0, .ref m0), (1, .int p0)] := hl
  refine lv_aload_n hx hb dX7_truncate_0 rfl (lv_at hl 0 rfl) ?_
  refine lv_iconst (v := 0) hx hb dX7_truncate_1 (by decide) ?_
  refine va_put (D := G.1) (ci := 10) (v := .int 0) (ty := .int) (C := RX7) (T := TX7) (N := 21) hx hb hts in_X7 tyX7 tyX7_ok nmX7 hown hK hP hD hS 0 rfl rfl 0 (by decide) (hts _ k_fl_X7_76) (fun _ h9 => h9) rfl (by decide +kernel) rfl rfl (Nat.le_of_ble_eq_true rfl) dX7_truncate_2 (fun H locs hP hD hS => ?_)
  replace hP : va_P G.1 vwCl [(m0, .inr (10, [.int 0, .ref m1, .ref m2, .ref m3, .int hf, .int hs, .ref m6, .int len, .int ec, .int ep, .int pos, .int bg, .int bad, .ref m13, .ref m14, .int plc, .int sta, .ref m17, .ref m18, .ref m19, .int shm]))] H := hP
  replace hD : va_D A [(m0, .inr (10, [.int 0, .ref m1, .ref m2, .ref m3, .int hf, .int hs, .ref m6, .int len, .int ec, .int ep, .int pos, .int bg, .int bad, .ref m13, .ref m14, .int plc, .int sta, .ref m17, .ref m18, .ref m19, .int shm]))] := hD
  refine lv_iload_n hx hb dX7_truncate_5 rfl (lv_at hl 1 rfl) ?_
  refine lv_i2l (v := (Int32.toInt64 p0)) hx hb dX7_truncate_6 rfl ?_
  refine lv_lconst (v := 0) hx hb dX7_truncate_7 (by decide) ?_
  refine lv_aload_n hx hb dX7_truncate_8 rfl (lv_at hl 0 rfl) ?_
  refine va_get (D := G.1) (ci := 10) (v := .int len) (C := RX7) (T := TX7) (N := 21) hx hb hts in_X7 hown hK hP 0 rfl rfl 7 (by decide) (hts _ k_fl_X7_95) (fun _ h9 => h9) rfl dX7_truncate_9 ?_
  refine lv_i2l (v := (Int32.toInt64 len)) hx hb dX7_truncate_12 rfl ?_
  refine gS (As := [.long (Int32.toInt64 p0), .long 0, .long (Int32.toInt64 len)]) (rest := []) (wr := [(m0, .inr (10, [.int 0, .ref m1, .ref m2, .ref m3, .int hf, .int hs, .ref m6, .int len, .int ec, .int ep, .int pos, .int bg, .int bad, .ref m13, .ref m14, .int plc, .int sta, .ref m17, .ref m18, .ref m19, .int shm]))]) (ws' := [(m0, .inr (10, [.int 0, .ref m1, .ref m2, .ref m3, .int hf, .int hs, .ref m6, .int len, .int ec, .int ep, .int pos, .int bg, .int bad, .ref m13, .ref m14, .int plc, .int sta, .ref m17, .ref m18, .ref m19, .int shm]))]) F (c_X7_in l G (Int32.toInt64 p0) 0 (Int32.toInt64 len)) okS_X7_in k_ml_X7_81 rfl rfl ⟨Nat.le_of_ble_eq_true rfl, Nat.le_of_ble_eq_true rfl⟩ hN hK hP hD hS hA [] [0] [0] (by decide) rfl rfl (by decide) (by decide) (by decide) rfl rfl rfl hl.1 (Nat.le_of_ble_eq_true rfl) dX7_truncate_13 ⟨Nat.le_refl _, Nat.le_refl _⟩ (fun H locs hP hD hS => ?_)
  refine lv_if_ne (tgt := 25) hx hb dX7_truncate_16 (by decide) (fun c_1 => ?_) (fun c_1 => ?_)
  · skip
    refine lv_aload_n hx hb dX7_truncate_25 rfl (lv_at hl 0 rfl) ?_
    refine lv_iload_n hx hb dX7_truncate_26 rfl (lv_at hl 1 rfl) ?_
    refine va_put (D := G.1) (ci := 10) (v := .int p0) (ty := .int) (C := RX7) (T := TX7) (N := 21) hx hb hts in_X7 tyX7 tyX7_ok nmX7 hown hK hP hD hS 0 rfl rfl 7 (by decide) (hts _ k_fl_X7_95) (fun _ h9 => h9) rfl (by decide +kernel) rfl rfl (Nat.le_of_ble_eq_true rfl) dX7_truncate_27 (fun H locs hP hD hS => ?_)
    replace hP : va_P G.1 vwCl [(m0, .inr (10, [.int 0, .ref m1, .ref m2, .ref m3, .int hf, .int hs, .ref m6, .int p0, .int ec, .int ep, .int pos, .int bg, .int bad, .ref m13, .ref m14, .int plc, .int sta, .ref m17, .ref m18, .ref m19, .int shm]))] H := hP
    replace hD : va_D A [(m0, .inr (10, [.int 0, .ref m1, .ref m2, .ref m3, .int hf, .int hs, .ref m6, .int p0, .int ec, .int ep, .int pos, .int bg, .int bad, .ref m13, .ref m14, .int plc, .int sta, .ref m17, .ref m18, .ref m19, .int shm]))] := hD
    refine lv_aload_n hx hb dX7_truncate_30 rfl (lv_at hl 0 rfl) ?_
    refine va_get (D := G.1) (ci := 10) (v := .int p0) (C := RX7) (T := TX7) (N := 21) hx hb hts in_X7 hown hK hP 0 rfl rfl 7 (by decide) (hts _ k_fl_X7_95) (fun _ h9 => h9) rfl dX7_truncate_31 ?_
    have ef : (f_X7_truncate len p0) = (p0, 0, p0) := (if_neg c_1)
    exact gRetI F hr hlocks hK hP hD hS (by rw [ef]) (by rw [ef]) (Nat.le_of_ble_eq_true rfl) (Nat.le_of_ble_eq_true rfl) dX7_truncate_34
  · skip
    refine lv_aload_n hx hb dX7_truncate_19 rfl (lv_at hl 0 rfl) ?_
    refine lv_iconst (v := 1) hx hb dX7_truncate_20 (by decide) ?_
    refine gV (As := [.int 1]) (rest := []) (wr := []) (ws' := [(m0, .inr (10, [.int ((f_X7_fails 1).2), .ref m1, .ref m2, .ref m3, .int hf, .int hs, .ref m6, .int len, .int ec, .int ep, .int pos, .int bg, .int bad, .ref m13, .ref m14, .int plc, .int sta, .ref m17, .ref m18, .ref m19, .int shm]))]) F (c_X7_fails l G m0 m1 m2 m3 m6 m13 m14 m17 m18 m19 0 hf hs len ec ep pos bg bad plc sta shm 1) okV_X7_fails k_ml_X7_98 rfl rfl ⟨Nat.le_of_ble_eq_true rfl, Nat.le_of_ble_eq_true rfl⟩ hN hK hP hD hS hA [0] [] [0] (by decide) rfl rfl (by decide) (by decide) (by decide) rfl (q0 := 0) rfl rfl rfl rfl hl.1 (Nat.le_of_ble_eq_true rfl) dX7_truncate_21 ⟨Nat.le_refl _, Nat.le_refl _⟩ (fun H locs hP hD hS => ?_)
    have ef : (f_X7_truncate len p0) = ((f_X7_fails 1).1, (f_X7_fails 1).2, len) := (if_pos c_1)
    exact gRetI F hr hlocks hK hP hD hS (by rw [ef]) (by rw [ef]) (Nat.le_of_ble_eq_true rfl) (Nat.le_of_ble_eq_true rfl) dX7_truncate_24
theorem okV_X7_truncate : gOkV yX7_truncate cX7_truncate 2 (some .int) 1 := ⟨⟨k_im_X7_truncate, k_se_X7_truncate, k_in_X7, k_cd_X7_truncate⟩, by decide, by decide, by decide +kernel⟩
def f_X7_wrong (ec : Int32) (ep : Int32) (bad : Int32) (p0 : Int32) (p1 : Int32) : Int32 × Int32 × Int32 :=
  if bad = 0 then
    (p0, p1, 1)
  else
    (ec, ep, bad)
set_option maxRecDepth 100000 in
set_option maxHeartbeats 4000000 in
theorem c_X7_wrong (l : Launch) (G : gG) (m0 : Nat) (m1 : Nat) (m2 : Nat) (m3 : Nat) (m6 : Nat) (m13 : Nat) (m14 : Nat) (m17 : Nat) (m18 : Nat) (m19 : Nat) (rz : Int32) (hf : Int32) (hs : Int32) (len : Int32) (ec : Int32) (ep : Int32) (pos : Int32) (bg : Int32) (bad : Int32) (plc : Int32) (sta : Int32) (shm : Int32) (p0 : Int32) (p1 : Int32) : gM l G yX7_wrong cX7_wrong 3 none { frames := 0, cells := 0, slots := 0, locals := 0 } [.ref m0, .int p0, .int p1] [(m0, .inr (10, [.int rz, .ref m1, .ref m2, .ref m3, .int hf, .int hs, .ref m6, .int len, .int ec, .int ep, .int pos, .int bg, .int bad, .ref m13, .ref m14, .int plc, .int sta, .ref m17, .ref m18, .ref m19, .int shm]))] none [(m0, .inr (10, [.int rz, .ref m1, .ref m2, .ref m3, .int hf, .int hs, .ref m6, .int len, .int ((f_X7_wrong ec ep bad p0 p1).1), .int ((f_X7_wrong ec ep bad p0 p1).2.1), .int pos, .int bg, .int ((f_X7_wrong ec ep bad p0 p1).2.2), .ref m13, .ref m14, .int plc, .int sta, .ref m17, .ref m18, .ref m19, .int shm]))] 0 0 := by
  refine gBegin (by decide +kernel) (Nat.le_of_ble_eq_true rfl) (fun p e s m args below meth c A F hr hlocks hname hN hK hP hD hA hS ls hl => ?_)
  obtain ⟨hx, hb, hml, hown, hts⟩ := id F
  replace hP : va_P G.1 vwCl [(m0, .inr (10, [.int rz, .ref m1, .ref m2, .ref m3, .int hf, .int hs, .ref m6, .int len, .int ec, .int ep, .int pos, .int bg, .int bad, .ref m13, .ref m14, .int plc, .int sta, .ref m17, .ref m18, .ref m19, .int shm]))] s.heap := hP
  replace hl : lv_has ls 3 [(0, .ref m0), (1, .int p0), (2, .int p1)] := hl
  refine lv_aload_n hx hb dX7_wrong_0 rfl (lv_at hl 0 rfl) ?_
  refine va_get (D := G.1) (ci := 10) (v := .int bad) (C := RX7) (T := TX7) (N := 21) hx hb hts in_X7 hown hK hP 0 rfl rfl 12 (by decide) (hts _ k_fl_X7_109) (fun _ h9 => h9) rfl dX7_wrong_1 ?_
  refine lv_if_eq (tgt := 8) hx hb dX7_wrong_4 (by decide) (fun c_1 => ?_) (fun c_1 => ?_)
  · skip
    refine lv_aload_n hx hb dX7_wrong_8 rfl (lv_at hl 0 rfl) ?_
    refine lv_iconst (v := 1) hx hb dX7_wrong_9 (by decide) ?_
    refine va_put (D := G.1) (ci := 10) (v := .int 1) (ty := .boolean) (C := RX7) (T := TX7) (N := 21) hx hb hts in_X7 tyX7 tyX7_ok nmX7 hown hK hP hD hS 0 rfl rfl 12 (by decide) (hts _ k_fl_X7_109) (fun _ h9 => h9) rfl (by decide +kernel) rfl rfl (Nat.le_of_ble_eq_true rfl) dX7_wrong_10 (fun H locs hP hD hS => ?_)
    replace hP : va_P G.1 vwCl [(m0, .inr (10, [.int rz, .ref m1, .ref m2, .ref m3, .int hf, .int hs, .ref m6, .int len, .int ec, .int ep, .int pos, .int bg, .int 1, .ref m13, .ref m14, .int plc, .int sta, .ref m17, .ref m18, .ref m19, .int shm]))] H := hP
    replace hD : va_D A [(m0, .inr (10, [.int rz, .ref m1, .ref m2, .ref m3, .int hf, .int hs, .ref m6, .int len, .int ec, .int ep, .int pos, .int bg, .int 1, .ref m13, .ref m14, .int plc, .int sta, .ref m17, .ref m18, .ref m19, .int shm]))] := hD
    refine lv_aload_n hx hb dX7_wrong_13 rfl (lv_at hl 0 rfl) ?_
    refine lv_iload_n hx hb dX7_wrong_14 rfl (lv_at hl 1 rfl) ?_
    refine va_put (D := G.1) (ci := 10) (v := .int p0) (ty := .int) (C := RX7) (T := TX7) (N := 21) hx hb hts in_X7 tyX7 tyX7_ok nmX7 hown hK hP hD hS 0 rfl rfl 8 (by decide) (hts _ k_fl_X7_113) (fun _ h9 => h9) rfl (by decide +kernel) rfl rfl (Nat.le_of_ble_eq_true rfl) dX7_wrong_15 (fun H locs hP hD hS => ?_)
    replace hP : va_P G.1 vwCl [(m0, .inr (10, [.int rz, .ref m1, .ref m2, .ref m3, .int hf, .int hs, .ref m6, .int len, .int p0, .int ep, .int pos, .int bg, .int 1, .ref m13, .ref m14, .int plc, .int sta, .ref m17, .ref m18, .ref m19, .int shm]))] H := hP
    replace hD : va_D A [(m0, .inr (10, [.int rz, .ref m1, .ref m2, .ref m3, .int hf, .int hs, .ref m6, .int len, .int p0, .int ep, .int pos, .int bg, .int 1, .ref m13, .ref m14, .int plc, .int sta, .ref m17, .ref m18, .ref m19, .int shm]))] := hD
    refine lv_aload_n hx hb dX7_wrong_18 rfl (lv_at hl 0 rfl) ?_
    refine lv_iload_n hx hb dX7_wrong_19 rfl (lv_at hl 2 rfl) ?_
    refine va_put (D := G.1) (ci := 10) (v := .int p1) (ty := .int) (C := RX7) (T := TX7) (N := 21) hx hb hts in_X7 tyX7 tyX7_ok nmX7 hown hK hP hD hS 0 rfl rfl 9 (by decide) (hts _ k_fl_X7_22) (fun _ h9 => h9) rfl (by decide +kernel) rfl rfl (Nat.le_of_ble_eq_true rfl) dX7_wrong_20 (fun H locs hP hD hS => ?_)
    replace hP : va_P G.1 vwCl [(m0, .inr (10, [.int rz, .ref m1, .ref m2, .ref m3, .int hf, .int hs, .ref m6, .int len, .int p0, .int p1, .int pos, .int bg, .int 1, .ref m13, .ref m14, .int plc, .int sta, .ref m17, .ref m18, .ref m19, .int shm]))] H := hP
    replace hD : va_D A [(m0, .inr (10, [.int rz, .ref m1, .ref m2, .ref m3, .int hf, .int hs, .ref m6, .int len, .int p0, .int p1, .int pos, .int bg, .int 1, .ref m13, .ref m14, .int plc, .int sta, .ref m17, .ref m18, .ref m19, .int shm]))] := hD
    have ef : (f_X7_wrong ec ep bad p0 p1) = (p0, p1, 1) := (if_pos c_1)
    exact gRetV F hr hlocks hK hP hD hS rfl (by rw [ef]) (Nat.le_of_ble_eq_true rfl) (Nat.le_of_ble_eq_true rfl) dX7_wrong_23
  · skip
    have ef : (f_X7_wrong ec ep bad p0 p1) = (ec, ep, bad) := (if_neg c_1)
    exact gRetV F hr hlocks hK hP hD hS rfl (by rw [ef]) (Nat.le_of_ble_eq_true rfl) (Nat.le_of_ble_eq_true rfl) dX7_wrong_7
theorem okV_X7_wrong : gOkV yX7_wrong cX7_wrong 3 none 2 := ⟨⟨k_im_X7_wrong, k_se_X7_wrong, k_in_X7, k_cd_X7_wrong⟩, by decide, by decide, by decide +kernel⟩
def f_X7_errorCode (ec : Int32) : Int32 × Int32 :=
  (ec, 0)
set_option maxRecDepth 100000 in
set_option maxHeartbeats 4000000 in
theorem c_X7_errorCode (l : Launch) (G : gG) (m0 : Nat) (m1 : Nat) (m2 : Nat) (m3 : Nat) (m6 : Nat) (m13 : Nat) (m14 : Nat) (m17 : Nat) (m18 : Nat) (m19 : Nat) (rz : Int32) (hf : Int32) (hs : Int32) (len : Int32) (ec : Int32) (ep : Int32) (pos : Int32) (bg : Int32) (bad : Int32) (plc : Int32) (sta : Int32) (shm : Int32) : gM l G yX7_errorCode cX7_errorCode 1 (some .int) { frames := 0, cells := 0, slots := 0, locals := 0 } [.ref m0] [(m0, .inr (10, [.int rz, .ref m1, .ref m2, .ref m3, .int hf, .int hs, .ref m6, .int len, .int ec, .int ep, .int pos, .int bg, .int bad, .ref m13, .ref m14, .int plc, .int sta, .ref m17, .ref m18, .ref m19, .int shm]))] (some (.int ((f_X7_errorCode ec).1))) [(m0, .inr (10, [.int ((f_X7_errorCode ec).2), .ref m1, .ref m2, .ref m3, .int hf, .int hs, .ref m6, .int len, .int ec, .int ep, .int pos, .int bg, .int bad, .ref m13, .ref m14, .int plc, .int sta, .ref m17, .ref m18, .ref m19, .int shm]))] 0 0 := by
  refine gBegin (by decide +kernel) (Nat.le_of_ble_eq_true rfl) (fun p e s m args below meth c A F hr hlocks hname hN hK hP hD hA hS ls hl => ?_)
  obtain ⟨hx, hb, hml, hown, hts⟩ := id F
  replace hP : va_P G.1 vwCl [(m0, .inr (10, [.int rz, .ref m1, .ref m2, .ref m3, .int hf, .int hs, .ref m6, .int len, .int ec, .int ep, .int pos, .int bg, .int bad, .ref m13, .ref m14, .int plc, .int sta, .ref m17, .ref m18, .ref m19, .int shm]))] s.heap := hP
  replace hl : lv_has ls 1 [(0, .ref m0)] := hl
  refine lv_aload_n hx hb dX7_errorCode_0 rfl (lv_at hl 0 rfl) ?_
  refine lv_iconst (v := 0) hx hb dX7_errorCode_1 (by decide) ?_
  refine va_put (D := G.1) (ci := 10) (v := .int 0) (ty := .int) (C := RX7) (T := TX7) (N := 21) hx hb hts in_X7 tyX7 tyX7_ok nmX7 hown hK hP hD hS 0 rfl rfl 0 (by decide) (hts _ k_fl_X7_76) (fun _ h9 => h9) rfl (by decide +kernel) rfl rfl (Nat.le_of_ble_eq_true rfl) dX7_errorCode_2 (fun H locs hP hD hS => ?_)
  replace hP : va_P G.1 vwCl [(m0, .inr (10, [.int 0, .ref m1, .ref m2, .ref m3, .int hf, .int hs, .ref m6, .int len, .int ec, .int ep, .int pos, .int bg, .int bad, .ref m13, .ref m14, .int plc, .int sta, .ref m17, .ref m18, .ref m19, .int shm]))] H := hP
  replace hD : va_D A [(m0, .inr (10, [.int 0, .ref m1, .ref m2, .ref m3, .int hf, .int hs, .ref m6, .int len, .int ec, .int ep, .int pos, .int bg, .int bad, .ref m13, .ref m14, .int plc, .int sta, .ref m17, .ref m18, .ref m19, .int shm]))] := hD
  refine lv_aload_n hx hb dX7_errorCode_5 rfl (lv_at hl 0 rfl) ?_
  refine va_get (D := G.1) (ci := 10) (v := .int ec) (C := RX7) (T := TX7) (N := 21) hx hb hts in_X7 hown hK hP 0 rfl rfl 8 (by decide) (hts _ k_fl_X7_113) (fun _ h9 => h9) rfl dX7_errorCode_6 ?_
  exact gRetI F hr hlocks hK hP hD hS rfl rfl (Nat.le_of_ble_eq_true rfl) (Nat.le_of_ble_eq_true rfl) dX7_errorCode_9
theorem okV_X7_errorCode : gOkV yX7_errorCode cX7_errorCode 1 (some .int) 0 := ⟨⟨k_im_X7_errorCode, k_se_X7_errorCode, k_in_X7, k_cd_X7_errorCode⟩, by decide, by decide, by decide +kernel⟩
def f_X7_errorPosition (ep : Int32) : Int32 × Int32 :=
  (ep, 0)
set_option maxRecDepth 100000 in
set_option maxHeartbeats 4000000 in
theorem c_X7_errorPosition (l : Launch) (G : gG) (m0 : Nat) (m1 : Nat) (m2 : Nat) (m3 : Nat) (m6 : Nat) (m13 : Nat) (m14 : Nat) (m17 : Nat) (m18 : Nat) (m19 : Nat) (rz : Int32) (hf : Int32) (hs : Int32) (len : Int32) (ec : Int32) (ep : Int32) (pos : Int32) (bg : Int32) (bad : Int32) (plc : Int32) (sta : Int32) (shm : Int32) : gM l G yX7_errorPosition cX7_errorPosition 1 (some .int) { frames := 0, cells := 0, slots := 0, locals := 0 } [.ref m0] [(m0, .inr (10, [.int rz, .ref m1, .ref m2, .ref m3, .int hf, .int hs, .ref m6, .int len, .int ec, .int ep, .int pos, .int bg, .int bad, .ref m13, .ref m14, .int plc, .int sta, .ref m17, .ref m18, .ref m19, .int shm]))] (some (.int ((f_X7_errorPosition ep).1))) [(m0, .inr (10, [.int ((f_X7_errorPosition ep).2), .ref m1, .ref m2, .ref m3, .int hf, .int hs, .ref m6, .int len, .int ec, .int ep, .int pos, .int bg, .int bad, .ref m13, .ref m14, .int plc, .int sta, .ref m17, .ref m18, .ref m19, .int shm]))] 0 0 := by
  refine gBegin (by decide +kernel) (Nat.le_of_ble_eq_true rfl) (fun p e s m args below meth c A F hr hlocks hname hN hK hP hD hA hS ls hl => ?_)
  obtain ⟨hx, hb, hml, hown, hts⟩ := id F
  replace hP : va_P G.1 vwCl [(m0, .inr (10, [.int rz, .ref m1, .ref m2, .ref m3, .int hf, .int hs, .ref m6, .int len, .int ec, .int ep, .int pos, .int bg, .int bad, .ref m13, .ref m14, .int plc, .int sta, .ref m17, .ref m18, .ref m19, .int shm]))] s.heap := hP
  replace hl : lv_has ls 1 [(0, .ref m0)] := hl
  refine lv_aload_n hx hb dX7_errorPosition_0 rfl (lv_at hl 0 rfl) ?_
  refine lv_iconst (v := 0) hx hb dX7_errorPosition_1 (by decide) ?_
  refine va_put (D := G.1) (ci := 10) (v := .int 0) (ty := .int) (C := RX7) (T := TX7) (N := 21) hx hb hts in_X7 tyX7 tyX7_ok nmX7 hown hK hP hD hS 0 rfl rfl 0 (by decide) (hts _ k_fl_X7_76) (fun _ h9 => h9) rfl (by decide +kernel) rfl rfl (Nat.le_of_ble_eq_true rfl) dX7_errorPosition_2 (fun H locs hP hD hS => ?_)
  replace hP : va_P G.1 vwCl [(m0, .inr (10, [.int 0, .ref m1, .ref m2, .ref m3, .int hf, .int hs, .ref m6, .int len, .int ec, .int ep, .int pos, .int bg, .int bad, .ref m13, .ref m14, .int plc, .int sta, .ref m17, .ref m18, .ref m19, .int shm]))] H := hP
  replace hD : va_D A [(m0, .inr (10, [.int 0, .ref m1, .ref m2, .ref m3, .int hf, .int hs, .ref m6, .int len, .int ec, .int ep, .int pos, .int bg, .int bad, .ref m13, .ref m14, .int plc, .int sta, .ref m17, .ref m18, .ref m19, .int shm]))] := hD
  refine lv_aload_n hx hb dX7_errorPosition_5 rfl (lv_at hl 0 rfl) ?_
  refine va_get (D := G.1) (ci := 10) (v := .int ep) (C := RX7) (T := TX7) (N := 21) hx hb hts in_X7 hown hK hP 0 rfl rfl 9 (by decide) (hts _ k_fl_X7_22) (fun _ h9 => h9) rfl dX7_errorPosition_6 ?_
  exact gRetI F hr hlocks hK hP hD hS rfl rfl (Nat.le_of_ble_eq_true rfl) (Nat.le_of_ble_eq_true rfl) dX7_errorPosition_9
theorem okV_X7_errorPosition : gOkV yX7_errorPosition cX7_errorPosition 1 (some .int) 0 := ⟨⟨k_im_X7_errorPosition, k_se_X7_errorPosition, k_in_X7, k_cd_X7_errorPosition⟩, by decide, by decide, by decide +kernel⟩
def f_X7_readWord (w : Nat → Int32) (p0 : Int32) (p1 : Int32) : Int32 × Int32 :=
  if (f_X7_isLocation p0 p1) = 0 then
    ((f_X7_fails 1).1, (f_X7_fails 1).2)
  else
    ((f_X7_wrap (Int32.toInt64 (w (Int32.toNatClampNeg ((414 + (32 * p0)) + p1))))), 0)
set_option maxRecDepth 100000 in
set_option maxHeartbeats 4000000 in
theorem c_X7_readWord (l : Launch) (G : gG) (m0 : Nat) (m1 : Nat) (m2 : Nat) (m3 : Nat) (m6 : Nat) (m13 : Nat) (m14 : Nat) (m17 : Nat) (m18 : Nat) (m19 : Nat) (rz : Int32) (hf : Int32) (hs : Int32) (len : Int32) (ec : Int32) (ep : Int32) (pos : Int32) (bg : Int32) (bad : Int32) (plc : Int32) (sta : Int32) (shm : Int32) (w : Nat → Int32) (p0 : Int32) (p1 : Int32) : gM l G yX7_readWord cX7_readWord 3 (some .int) { frames := 3, cells := 0, slots := 0, locals := 66 } [.ref m0, .int p0, .int p1] [(m0, .inr (10, [.int rz, .ref m1, .ref m2, .ref m3, .int hf, .int hs, .ref m6, .int len, .int ec, .int ep, .int pos, .int bg, .int bad, .ref m13, .ref m14, .int plc, .int sta, .ref m17, .ref m18, .ref m19, .int shm])), (m1, .inl (G.2.1.1, 670, .inl w))] (some (.int ((f_X7_readWord w p0 p1).1))) [(m0, .inr (10, [.int ((f_X7_readWord w p0 p1).2), .ref m1, .ref m2, .ref m3, .int hf, .int hs, .ref m6, .int len, .int ec, .int ep, .int pos, .int bg, .int bad, .ref m13, .ref m14, .int plc, .int sta, .ref m17, .ref m18, .ref m19, .int shm])), (m1, .inl (G.2.1.1, 670, .inl w))] 0 0 := by
  refine gBegin (by decide +kernel) (Nat.le_of_ble_eq_true rfl) (fun p e s m args below meth c A F hr hlocks hname hN hK hP hD hA hS ls hl => ?_)
  obtain ⟨hx, hb, hml, hown, hts⟩ := id F
  replace hP : va_P G.1 vwCl [(m0, .inr (10, [.int rz, .ref m1, .ref m2, .ref m3, .int hf, .int hs, .ref m6, .int len, .int ec, .int ep, .int pos, .int bg, .int bad, .ref m13, .ref m14, .int plc, .int sta, .ref m17, .ref m18, .ref m19, .int shm])), (m1, .inl (G.2.1.1, 670, .inl w))] s.heap := hP
  replace hl : lv_has ls 3 [(0, .ref m0), (1, .int p0), (2, .int p1)] := hl
  refine lv_aload_n hx hb dX7_readWord_0 rfl (lv_at hl 0 rfl) ?_
  refine lv_iconst (v := 0) hx hb dX7_readWord_1 (by decide) ?_
  refine va_put (D := G.1) (ci := 10) (v := .int 0) (ty := .int) (C := RX7) (T := TX7) (N := 21) hx hb hts in_X7 tyX7 tyX7_ok nmX7 hown hK hP hD hS 0 rfl rfl 0 (by decide) (hts _ k_fl_X7_76) (fun _ h9 => h9) rfl (by decide +kernel) rfl rfl (Nat.le_of_ble_eq_true rfl) dX7_readWord_2 (fun H locs hP hD hS => ?_)
  replace hP : va_P G.1 vwCl [(m0, .inr (10, [.int 0, .ref m1, .ref m2, .ref m3, .int hf, .int hs, .ref m6, .int len, .int ec, .int ep, .int pos, .int bg, .int bad, .ref m13, .ref m14, .int plc, .int sta, .ref m17, .ref m18, .ref m19, .int shm])), (m1, .inl (G.2.1.1, 670, .inl w))] H := hP
  replace hD : va_D A [(m0, .inr (10, [.int 0, .ref m1, .ref m2, .ref m3, .int hf, .int hs, .ref m6, .int len, .int ec, .int ep, .int pos, .int bg, .int bad, .ref m13, .ref m14, .int plc, .int sta, .ref m17, .ref m18, .ref m19, .int shm])), (m1, .inl (G.2.1.1, 670, .inl w))] := hD
  refine lv_iload_n hx hb dX7_readWord_5 rfl (lv_at hl 1 rfl) ?_
  refine lv_iload_n hx hb dX7_readWord_6 rfl (lv_at hl 2 rfl) ?_
  refine gS (As := [.int p0, .int p1]) (rest := []) (wr := [(m0, .inr (10, [.int 0, .ref m1, .ref m2, .ref m3, .int hf, .int hs, .ref m6, .int len, .int ec, .int ep, .int pos, .int bg, .int bad, .ref m13, .ref m14, .int plc, .int sta, .ref m17, .ref m18, .ref m19, .int shm])), (m1, .inl (G.2.1.1, 670, .inl w))]) (ws' := [(m0, .inr (10, [.int 0, .ref m1, .ref m2, .ref m3, .int hf, .int hs, .ref m6, .int len, .int ec, .int ep, .int pos, .int bg, .int bad, .ref m13, .ref m14, .int plc, .int sta, .ref m17, .ref m18, .ref m19, .int shm])), (m1, .inl (G.2.1.1, 670, .inl w))]) F (c_X7_isLocation l G p0 p1) okS_X7_isLocation k_ml_X7_193 rfl rfl ⟨Nat.le_of_ble_eq_true rfl, Nat.le_of_ble_eq_true rfl⟩ hN hK hP hD hS hA [] [0, 1] [0, 1] (by decide) rfl rfl (by decide) (by decide) (by decide) rfl rfl rfl hl.1 (Nat.le_of_ble_eq_true rfl) dX7_readWord_7 ⟨Nat.le_refl _, Nat.le_refl _⟩ (fun H locs hP hD hS => ?_)
  refine lv_if_eq (tgt := 35) hx hb dX7_readWord_10 (by decide) (fun c_1 => ?_) (fun c_1 => ?_)
  · skip
    refine lv_aload_n hx hb dX7_readWord_35 rfl (lv_at hl 0 rfl) ?_
    refine lv_iconst (v := 1) hx hb dX7_readWord_36 (by decide) ?_
    refine gV (As := [.int 1]) (rest := []) (wr := [(m1, .inl (G.2.1.1, 670, .inl w))]) (ws' := [(m0, .inr (10, [.int ((f_X7_fails 1).2), .ref m1, .ref m2, .ref m3, .int hf, .int hs, .ref m6, .int len, .int ec, .int ep, .int pos, .int bg, .int bad, .ref m13, .ref m14, .int plc, .int sta, .ref m17, .ref m18, .ref m19, .int shm])), (m1, .inl (G.2.1.1, 670, .inl w))]) F (c_X7_fails l G m0 m1 m2 m3 m6 m13 m14 m17 m18 m19 0 hf hs len ec ep pos bg bad plc sta shm 1) okV_X7_fails k_ml_X7_98 rfl rfl ⟨Nat.le_of_ble_eq_true rfl, Nat.le_of_ble_eq_true rfl⟩ hN hK hP hD hS hA [0] [1] [1, 0] (by decide) rfl rfl (by decide) (by decide) (by decide) rfl (q0 := 0) rfl rfl rfl rfl hl.1 (Nat.le_of_ble_eq_true rfl) dX7_readWord_37 ⟨Nat.le_refl _, Nat.le_refl _⟩ (fun H locs hP hD hS => ?_)
    have ef : (f_X7_readWord w p0 p1) = ((f_X7_fails 1).1, (f_X7_fails 1).2) := (if_pos c_1)
    exact gRetI F hr hlocks hK hP hD hS (by rw [ef]) (by rw [ef]) (Nat.le_of_ble_eq_true rfl) (Nat.le_of_ble_eq_true rfl) dX7_readWord_40
  · skip
    refine lv_aload_n hx hb dX7_readWord_13 rfl (lv_at hl 0 rfl) ?_
    refine va_get (D := G.1) (ci := 10) (v := .ref m1) (C := RX7) (T := TX7) (N := 21) hx hb hts in_X7 hown hK hP 0 rfl rfl 1 (by decide) (hts _ k_fl_X7_7) (fun _ h9 => h9) rfl dX7_readWord_14 ?_
    refine lv_sipush (v := 414) hx hb dX7_readWord_17 (by decide) ?_
    refine lv_bipush (v := 32) hx hb dX7_readWord_20 (by decide) ?_
    refine lv_iload_n hx hb dX7_readWord_22 rfl (lv_at hl 1 rfl) ?_
    refine lv_imul hx hb dX7_readWord_23 ?_
    refine lv_iadd hx hb dX7_readWord_24 ?_
    refine lv_iload_n hx hb dX7_readWord_25 rfl (lv_at hl 2 rfl) ?_
    refine lv_iadd hx hb dX7_readWord_26 ?_
    refine va_iald hx hb hK hP 1 0 rfl rfl (by have qc_1 := loc_of c_1; have z0 : (414 : Int32).toInt = 414 := (by decide); have z1 : (32 : Int32).toInt = 32 := (by decide); (try have z3 := gI_mul (x := 32) (y := p0) (by (try rw [z1]); (try rw [z2]); omega) (by (try rw [z1]); (try rw [z2]); omega)); (try rw [z1, z2] at z3); (try rw [z1] at z3); (try rw [z2] at z3); (try have z4 := gI_add (x := 414) (y := (32 * p0)) (by omega) (by omega)); (try have z6 := gI_add (x := (414 + (32 * p0))) (y := p1) (by omega) (by omega)); (try rw [vp_in_iff]); omega) dX7_readWord_27 ?_
    refine lv_i2l (v := (Int32.toInt64 (w (Int32.toNatClampNeg ((414 + (32 * p0)) + p1))))) hx hb dX7_readWord_28 rfl ?_
    refine gS (As := [.long (Int32.toInt64 (w (Int32.toNatClampNeg ((414 + (32 * p0)) + p1))))]) (rest := []) (wr := [(m0, .inr (10, [.int 0, .ref m1, .ref m2, .ref m3, .int hf, .int hs, .ref m6, .int len, .int ec, .int ep, .int pos, .int bg, .int bad, .ref m13, .ref m14, .int plc, .int sta, .ref m17, .ref m18, .ref m19, .int shm])), (m1, .inl (G.2.1.1, 670, .inl w))]) (ws' := [(m0, .inr (10, [.int 0, .ref m1, .ref m2, .ref m3, .int hf, .int hs, .ref m6, .int len, .int ec, .int ep, .int pos, .int bg, .int bad, .ref m13, .ref m14, .int plc, .int sta, .ref m17, .ref m18, .ref m19, .int shm])), (m1, .inl (G.2.1.1, 670, .inl w))]) F (c_X7_wrap l G (Int32.toInt64 (w (Int32.toNatClampNeg ((414 + (32 * p0)) + p1))))) okS_X7_wrap k_ml_X7_197 rfl rfl ⟨Nat.le_of_ble_eq_true rfl, Nat.le_of_ble_eq_true rfl⟩ hN hK hP hD hS hA [] [0, 1] [0, 1] (by decide) rfl rfl (by decide) (by decide) (by decide) rfl rfl rfl hl.1 (Nat.le_of_ble_eq_true rfl) dX7_readWord_29 ⟨Nat.le_refl _, Nat.le_refl _⟩ (fun H locs hP hD hS => ?_)
    refine lv_goto (tgt := 40) hx hb dX7_readWord_32 (by decide) ?_
    have ef : (f_X7_readWord w p0 p1) = ((f_X7_wrap (Int32.toInt64 (w (Int32.toNatClampNeg ((414 + (32 * p0)) + p1))))), 0) := (if_neg c_1)
    exact gRetI F hr hlocks hK hP hD hS (by rw [ef]) (by rw [ef]) (Nat.le_of_ble_eq_true rfl) (Nat.le_of_ble_eq_true rfl) dX7_readWord_40
theorem okV_X7_readWord : gOkV yX7_readWord cX7_readWord 3 (some .int) 2 := ⟨⟨k_im_X7_readWord, k_se_X7_readWord, k_in_X7, k_cd_X7_readWord⟩, by decide, by decide, by decide +kernel⟩
def f_X7_writeWord (w : Nat → Int32) (p0 : Int32) (p1 : Int32) (p2 : Int32) : Int32 × Int32 × (Nat → Int32) :=
  if (f_X7_isLocation p0 p1) = 0 then
    ((f_X7_fails 1).1, (f_X7_fails 1).2, w)
  else
    if (f_X7_in (Int32.toInt64 p2) (-524288) 524287) = 0 then
      ((f_X7_fails 2).1, (f_X7_fails 2).2, w)
    else
      ((f_X7_wrap (Int32.toInt64 (w (Int32.toNatClampNeg ((414 + (32 * p0)) + p1))))), 0, (upd w (Int32.toNatClampNeg ((414 + (32 * p0)) + p1)) (p2 &&& 1048575)))
set_option maxRecDepth 100000 in
set_option maxHeartbeats 4000000 in
theorem c_X7_writeWord (l : Launch) (G : gG) (m0 : Nat) (m1 : Nat) (m2 : Nat) (m3 : Nat) (m6 : Nat) (m13 : Nat) (m14 : Nat) (m17 : Nat) (m18 : Nat) (m19 : Nat) (rz : Int32) (hf : Int32) (hs : Int32) (len : Int32) (ec : Int32) (ep : Int32) (pos : Int32) (bg : Int32) (bad : Int32) (plc : Int32) (sta : Int32) (shm : Int32) (w : Nat → Int32) (p0 : Int32) (p1 : Int32) (p2 : Int32) : gM l G yX7_writeWord cX7_writeWord 5 (some .int) { frames := 3, cells := 0, slots := 0, locals := 66 } [.ref m0, .int p0, .int p1, .int p2] [(m0, .inr (10, [.int rz, .ref m1, .ref m2, .ref m3, .int hf, .int hs, .ref m6, .int len, .int ec, .int ep, .int pos, .int bg, .int bad, .ref m13, .ref m14, .int plc, .int sta, .ref m17, .ref m18, .ref m19, .int shm])), (m1, .inl (G.2.1.1, 670, .inl w))] (some (.int ((f_X7_writeWord w p0 p1 p2).1))) [(m0, .inr (10, [.int ((f_X7_writeWord w p0 p1 p2).2.1), .ref m1, .ref m2, .ref m3, .int hf, .int hs, .ref m6, .int len, .int ec, .int ep, .int pos, .int bg, .int bad, .ref m13, .ref m14, .int plc, .int sta, .ref m17, .ref m18, .ref m19, .int shm])), (m1, .inl (G.2.1.1, 670, .inl ((f_X7_writeWord w p0 p1 p2).2.2)))] 0 0 := by
  refine gBegin (by decide +kernel) (Nat.le_of_ble_eq_true rfl) (fun p e s m args below meth c A F hr hlocks hname hN hK hP hD hA hS ls hl => ?_)
  obtain ⟨hx, hb, hml, hown, hts⟩ := id F
  replace hP : va_P G.1 vwCl [(m0, .inr (10, [.int rz, .ref m1, .ref m2, .ref m3, .int hf, .int hs, .ref m6, .int len, .int ec, .int ep, .int pos, .int bg, .int bad, .ref m13, .ref m14, .int plc, .int sta, .ref m17, .ref m18, .ref m19, .int shm])), (m1, .inl (G.2.1.1, 670, .inl w))] s.heap := hP
  replace hl : lv_has ls 5 [(0, .ref m0), (1, .int p0), (2, .int p1), (3, .int p2)] := hl
  refine lv_aload_n hx hb dX7_writeWord_0 rfl (lv_at hl 0 rfl) ?_
  refine lv_iconst (v := 0) hx hb dX7_writeWord_1 (by decide) ?_
  refine va_put (D := G.1) (ci := 10) (v := .int 0) (ty := .int) (C := RX7) (T := TX7) (N := 21) hx hb hts in_X7 tyX7 tyX7_ok nmX7 hown hK hP hD hS 0 rfl rfl 0 (by decide) (hts _ k_fl_X7_76) (fun _ h9 => h9) rfl (by decide +kernel) rfl rfl (Nat.le_of_ble_eq_true rfl) dX7_writeWord_2 (fun H locs hP hD hS => ?_)
  replace hP : va_P G.1 vwCl [(m0, .inr (10, [.int 0, .ref m1, .ref m2, .ref m3, .int hf, .int hs, .ref m6, .int len, .int ec, .int ep, .int pos, .int bg, .int bad, .ref m13, .ref m14, .int plc, .int sta, .ref m17, .ref m18, .ref m19, .int shm])), (m1, .inl (G.2.1.1, 670, .inl w))] H := hP
  replace hD : va_D A [(m0, .inr (10, [.int 0, .ref m1, .ref m2, .ref m3, .int hf, .int hs, .ref m6, .int len, .int ec, .int ep, .int pos, .int bg, .int bad, .ref m13, .ref m14, .int plc, .int sta, .ref m17, .ref m18, .ref m19, .int shm])), (m1, .inl (G.2.1.1, 670, .inl w))] := hD
  refine lv_iload_n hx hb dX7_writeWord_5 rfl (lv_at hl 1 rfl) ?_
  refine lv_iload_n hx hb dX7_writeWord_6 rfl (lv_at hl 2 rfl) ?_
  refine gS (As := [.int p0, .int p1]) (rest := []) (wr := [(m0, .inr (10, [.int 0, .ref m1, .ref m2, .ref m3, .int hf, .int hs, .ref m6, .int len, .int ec, .int ep, .int pos, .int bg, .int bad, .ref m13, .ref m14, .int plc, .int sta, .ref m17, .ref m18, .ref m19, .int shm])), (m1, .inl (G.2.1.1, 670, .inl w))]) (ws' := [(m0, .inr (10, [.int 0, .ref m1, .ref m2, .ref m3, .int hf, .int hs, .ref m6, .int len, .int ec, .int ep, .int pos, .int bg, .int bad, .ref m13, .ref m14, .int plc, .int sta, .ref m17, .ref m18, .ref m19, .int shm])), (m1, .inl (G.2.1.1, 670, .inl w))]) F (c_X7_isLocation l G p0 p1) okS_X7_isLocation k_ml_X7_193 rfl rfl ⟨Nat.le_of_ble_eq_true rfl, Nat.le_of_ble_eq_true rfl⟩ hN hK hP hD hS hA [] [0, 1] [0, 1] (by decide) rfl rfl (by decide) (by decide) (by decide) rfl rfl rfl hl.1 (Nat.le_of_ble_eq_true rfl) dX7_writeWord_7 ⟨Nat.le_refl _, Nat.le_refl _⟩ (fun H locs hP hD hS => ?_)
  refine lv_if_ne (tgt := 19) hx hb dX7_writeWord_10 (by decide) (fun c_1 => ?_) (fun c_1 => ?_)
  · skip
    refine lv_iload_n hx hb dX7_writeWord_19 rfl (lv_at hl 3 rfl) ?_
    refine lv_i2l (v := (Int32.toInt64 p2)) hx hb dX7_writeWord_20 rfl ?_
    refine lv_ldc2 (v := (-524288)) hx hb hown (hts _ k_lc_X7_200) dX7_writeWord_21 ?_
    refine lv_ldc2 (v := 524287) hx hb hown (hts _ k_lc_X7_202) dX7_writeWord_24 ?_
    refine gS (As := [.long (Int32.toInt64 p2), .long (-524288), .long 524287]) (rest := []) (wr := [(m0, .inr (10, [.int 0, .ref m1, .ref m2, .ref m3, .int hf, .int hs, .ref m6, .int len, .int ec, .int ep, .int pos, .int bg, .int bad, .ref m13, .ref m14, .int plc, .int sta, .ref m17, .ref m18, .ref m19, .int shm])), (m1, .inl (G.2.1.1, 670, .inl w))]) (ws' := [(m0, .inr (10, [.int 0, .ref m1, .ref m2, .ref m3, .int hf, .int hs, .ref m6, .int len, .int ec, .int ep, .int pos, .int bg, .int bad, .ref m13, .ref m14, .int plc, .int sta, .ref m17, .ref m18, .ref m19, .int shm])), (m1, .inl (G.2.1.1, 670, .inl w))]) F (c_X7_in l G (Int32.toInt64 p2) (-524288) 524287) okS_X7_in k_ml_X7_81 rfl rfl ⟨Nat.le_of_ble_eq_true rfl, Nat.le_of_ble_eq_true rfl⟩ hN hK hP hD hS hA [] [0, 1] [0, 1] (by decide) rfl rfl (by decide) (by decide) (by decide) rfl rfl rfl hl.1 (Nat.le_of_ble_eq_true rfl) dX7_writeWord_27 ⟨Nat.le_refl _, Nat.le_refl _⟩ (fun H locs hP hD hS => ?_)
    refine lv_if_ne (tgt := 39) hx hb dX7_writeWord_30 (by decide) (fun c_2 => ?_) (fun c_2 => ?_)
    · skip
      refine lv_aload_n hx hb dX7_writeWord_39 rfl (lv_at hl 0 rfl) ?_
      refine va_get (D := G.1) (ci := 10) (v := .ref m1) (C := RX7) (T := TX7) (N := 21) hx hb hts in_X7 hown hK hP 0 rfl rfl 1 (by decide) (hts _ k_fl_X7_7) (fun _ h9 => h9) rfl dX7_writeWord_40 ?_
      refine lv_sipush (v := 414) hx hb dX7_writeWord_43 (by decide) ?_
      refine lv_bipush (v := 32) hx hb dX7_writeWord_46 (by decide) ?_
      refine lv_iload_n hx hb dX7_writeWord_48 rfl (lv_at hl 1 rfl) ?_
      refine lv_imul hx hb dX7_writeWord_49 ?_
      refine lv_iadd hx hb dX7_writeWord_50 ?_
      refine lv_iload_n hx hb dX7_writeWord_51 rfl (lv_at hl 2 rfl) ?_
      refine lv_iadd hx hb dX7_writeWord_52 ?_
      refine va_iald hx hb hK hP 1 0 rfl rfl (by have qc_1 := loc_of c_1; have qc_2 := in_ofI (a := -524288) (b := 524287) c_2 (by decide) (by decide); have z0 : (414 : Int32).toInt = 414 := (by decide); have z1 : (32 : Int32).toInt = 32 := (by decide); (try have z3 := gI_mul (x := 32) (y := p0) (by (try rw [z1]); (try rw [z2]); omega) (by (try rw [z1]); (try rw [z2]); omega)); (try rw [z1, z2] at z3); (try rw [z1] at z3); (try rw [z2] at z3); (try have z4 := gI_add (x := 414) (y := (32 * p0)) (by omega) (by omega)); (try have z6 := gI_add (x := (414 + (32 * p0))) (y := p1) (by omega) (by omega)); (try rw [vp_in_iff]); omega) dX7_writeWord_53 ?_
      refine lv_i2l (v := (Int32.toInt64 (w (Int32.toNatClampNeg ((414 + (32 * p0)) + p1))))) hx hb dX7_writeWord_54 rfl ?_
      refine gS (As := [.long (Int32.toInt64 (w (Int32.toNatClampNeg ((414 + (32 * p0)) + p1))))]) (rest := []) (wr := [(m0, .inr (10, [.int 0, .ref m1, .ref m2, .ref m3, .int hf, .int hs, .ref m6, .int len, .int ec, .int ep, .int pos, .int bg, .int bad, .ref m13, .ref m14, .int plc, .int sta, .ref m17, .ref m18, .ref m19, .int shm])), (m1, .inl (G.2.1.1, 670, .inl w))]) (ws' := [(m0, .inr (10, [.int 0, .ref m1, .ref m2, .ref m3, .int hf, .int hs, .ref m6, .int len, .int ec, .int ep, .int pos, .int bg, .int bad, .ref m13, .ref m14, .int plc, .int sta, .ref m17, .ref m18, .ref m19, .int shm])), (m1, .inl (G.2.1.1, 670, .inl w))]) F (c_X7_wrap l G (Int32.toInt64 (w (Int32.toNatClampNeg ((414 + (32 * p0)) + p1))))) okS_X7_wrap k_ml_X7_197 rfl rfl ⟨Nat.le_of_ble_eq_true rfl, Nat.le_of_ble_eq_true rfl⟩ hN hK hP hD hS hA [] [0, 1] [0, 1] (by decide) rfl rfl (by decide) (by decide) (by decide) rfl rfl rfl hl.1 (Nat.le_of_ble_eq_true rfl) dX7_writeWord_55 ⟨Nat.le_refl _, Nat.le_refl _⟩ (fun H locs hP hD hS => ?_)
      refine lv_istore (lv' := [(4, .int (f_X7_wrap (Int32.toInt64 (w (Int32.toNatClampNeg ((414 + (32 * p0)) + p1)))))), (0, .ref m0), (1, .int p0), (2, .int p1), (3, .int p2)]) hx hb dX7_writeWord_58 hl (by decide) rfl (fun ls hl => ?_)
      refine lv_aload_n hx hb dX7_writeWord_60 rfl (lv_at hl 1 rfl) ?_
      refine va_get (D := G.1) (ci := 10) (v := .ref m1) (C := RX7) (T := TX7) (N := 21) hx hb hts in_X7 hown hK hP 0 rfl rfl 1 (by decide) (hts _ k_fl_X7_7) (fun _ h9 => h9) rfl dX7_writeWord_61 ?_
      refine lv_sipush (v := 414) hx hb dX7_writeWord_64 (by decide) ?_
      refine lv_bipush (v := 32) hx hb dX7_writeWord_67 (by decide) ?_
      refine lv_iload_n hx hb dX7_writeWord_69 rfl (lv_at hl 2 rfl) ?_
      refine lv_imul hx hb dX7_writeWord_70 ?_
      refine lv_iadd hx hb dX7_writeWord_71 ?_
      refine lv_iload_n hx hb dX7_writeWord_72 rfl (lv_at hl 3 rfl) ?_
      refine lv_iadd hx hb dX7_writeWord_73 ?_
      refine lv_iload_n hx hb dX7_writeWord_74 rfl (lv_at hl 4 rfl) ?_
      refine lv_ldc (v := 1048575) hx hb hown (hts _ k_co_X7_94) dX7_writeWord_75 ?_
      refine lv_iand hx hb dX7_writeWord_77 ?_
      refine va_iast hx hb hK hP hD hS 1 0 rfl rfl (by have qc_1 := loc_of c_1; have qc_2 := in_ofI (a := -524288) (b := 524287) c_2 (by decide) (by decide); have z0 : (414 : Int32).toInt = 414 := (by decide); have z1 : (32 : Int32).toInt = 32 := (by decide); (try have z3 := gI_mul (x := 32) (y := p0) (by (try rw [z1]); (try rw [z2]); omega) (by (try rw [z1]); (try rw [z2]); omega)); (try rw [z1, z2] at z3); (try rw [z1] at z3); (try rw [z2] at z3); (try have z4 := gI_add (x := 414) (y := (32 * p0)) (by omega) (by omega)); (try have z6 := gI_add (x := (414 + (32 * p0))) (y := p1) (by omega) (by omega)); (try rw [vp_in_iff]); omega) dX7_writeWord_78 (fun H locs hP hD hS => ?_)
      replace hP : va_P G.1 vwCl [(m0, .inr (10, [.int 0, .ref m1, .ref m2, .ref m3, .int hf, .int hs, .ref m6, .int len, .int ec, .int ep, .int pos, .int bg, .int bad, .ref m13, .ref m14, .int plc, .int sta, .ref m17, .ref m18, .ref m19, .int shm])), (m1, .inl (G.2.1.1, 670, .inl (upd w (Int32.toNatClampNeg ((414 + (32 * p0)) + p1)) (p2 &&& 1048575))))] H := hP
      replace hD : va_D A [(m0, .inr (10, [.int 0, .ref m1, .ref m2, .ref m3, .int hf, .int hs, .ref m6, .int len, .int ec, .int ep, .int pos, .int bg, .int bad, .ref m13, .ref m14, .int plc, .int sta, .ref m17, .ref m18, .ref m19, .int shm])), (m1, .inl (G.2.1.1, 670, .inl (upd w (Int32.toNatClampNeg ((414 + (32 * p0)) + p1)) (p2 &&& 1048575))))] := hD
      refine lv_iload hx hb dX7_writeWord_79 (lv_at hl 0 rfl) ?_
      have ef : (f_X7_writeWord w p0 p1 p2) = ((f_X7_wrap (Int32.toInt64 (w (Int32.toNatClampNeg ((414 + (32 * p0)) + p1))))), 0, (upd w (Int32.toNatClampNeg ((414 + (32 * p0)) + p1)) (p2 &&& 1048575))) := ((if_neg c_1).trans (if_neg c_2))
      exact gRetI F hr hlocks hK hP hD hS (by rw [ef]) (by rw [ef]) (Nat.le_of_ble_eq_true rfl) (Nat.le_of_ble_eq_true rfl) dX7_writeWord_81
    · skip
      refine lv_aload_n hx hb dX7_writeWord_33 rfl (lv_at hl 0 rfl) ?_
      refine lv_iconst (v := 2) hx hb dX7_writeWord_34 (by decide) ?_
      refine gV (As := [.int 2]) (rest := []) (wr := [(m1, .inl (G.2.1.1, 670, .inl w))]) (ws' := [(m0, .inr (10, [.int ((f_X7_fails 2).2), .ref m1, .ref m2, .ref m3, .int hf, .int hs, .ref m6, .int len, .int ec, .int ep, .int pos, .int bg, .int bad, .ref m13, .ref m14, .int plc, .int sta, .ref m17, .ref m18, .ref m19, .int shm])), (m1, .inl (G.2.1.1, 670, .inl w))]) F (c_X7_fails l G m0 m1 m2 m3 m6 m13 m14 m17 m18 m19 0 hf hs len ec ep pos bg bad plc sta shm 2) okV_X7_fails k_ml_X7_98 rfl rfl ⟨Nat.le_of_ble_eq_true rfl, Nat.le_of_ble_eq_true rfl⟩ hN hK hP hD hS hA [0] [1] [1, 0] (by decide) rfl rfl (by decide) (by decide) (by decide) rfl (q0 := 0) rfl rfl rfl rfl hl.1 (Nat.le_of_ble_eq_true rfl) dX7_writeWord_35 ⟨Nat.le_refl _, Nat.le_refl _⟩ (fun H locs hP hD hS => ?_)
      have ef : (f_X7_writeWord w p0 p1 p2) = ((f_X7_fails 2).1, (f_X7_fails 2).2, w) := ((if_neg c_1).trans (if_pos c_2))
      exact gRetI F hr hlocks hK hP hD hS (by rw [ef]) (by rw [ef]) (Nat.le_of_ble_eq_true rfl) (Nat.le_of_ble_eq_true rfl) dX7_writeWord_38
  · skip
    refine lv_aload_n hx hb dX7_writeWord_13 rfl (lv_at hl 0 rfl) ?_
    refine lv_iconst (v := 1) hx hb dX7_writeWord_14 (by decide) ?_
    refine gV (As := [.int 1]) (rest := []) (wr := [(m1, .inl (G.2.1.1, 670, .inl w))]) (ws' := [(m0, .inr (10, [.int ((f_X7_fails 1).2), .ref m1, .ref m2, .ref m3, .int hf, .int hs, .ref m6, .int len, .int ec, .int ep, .int pos, .int bg, .int bad, .ref m13, .ref m14, .int plc, .int sta, .ref m17, .ref m18, .ref m19, .int shm])), (m1, .inl (G.2.1.1, 670, .inl w))]) F (c_X7_fails l G m0 m1 m2 m3 m6 m13 m14 m17 m18 m19 0 hf hs len ec ep pos bg bad plc sta shm 1) okV_X7_fails k_ml_X7_98 rfl rfl ⟨Nat.le_of_ble_eq_true rfl, Nat.le_of_ble_eq_true rfl⟩ hN hK hP hD hS hA [0] [1] [1, 0] (by decide) rfl rfl (by decide) (by decide) (by decide) rfl (q0 := 0) rfl rfl rfl rfl hl.1 (Nat.le_of_ble_eq_true rfl) dX7_writeWord_15 ⟨Nat.le_refl _, Nat.le_refl _⟩ (fun H locs hP hD hS => ?_)
    have ef : (f_X7_writeWord w p0 p1 p2) = ((f_X7_fails 1).1, (f_X7_fails 1).2, w) := (if_pos c_1)
    exact gRetI F hr hlocks hK hP hD hS (by rw [ef]) (by rw [ef]) (Nat.le_of_ble_eq_true rfl) (Nat.le_of_ble_eq_true rfl) dX7_writeWord_18
theorem okV_X7_writeWord : gOkV yX7_writeWord cX7_writeWord 5 (some .int) 3 := ⟨⟨k_im_X7_writeWord, k_se_X7_writeWord, k_in_X7, k_cd_X7_writeWord⟩, by decide, by decide, by decide +kernel⟩
def st_X7_bitsOf_4 (w : Nat → Int32) (p0 : Int32) (k : Nat) (v0_ : Int32) : Int32 :=
  (v0_ + ((((w (Int32.toNatClampNeg ((414 + (32 * p0)) + ((nI k) / 20)))) >>> (((nI k) % 20) &&& 31)) : Int32) &&& 1))
def it_X7_bitsOf_4 (w : Nat → Int32) (p0 : Int32) : Nat → Int32
  | 0 => 0
  | i + 1 => st_X7_bitsOf_4 w p0 i (it_X7_bitsOf_4 w p0 i)
def f_X7_bitsOf (w : Nat → Int32) (p0 : Int32) : Int32 :=
  (it_X7_bitsOf_4 w p0 640)
set_option maxRecDepth 100000 in
set_option maxHeartbeats 4000000 in
theorem c_X7_bitsOf (l : Launch) (G : gG) (m0 : Nat) (m1 : Nat) (m2 : Nat) (m3 : Nat) (m6 : Nat) (m13 : Nat) (m14 : Nat) (m17 : Nat) (m18 : Nat) (m19 : Nat) (rz : Int32) (hf : Int32) (hs : Int32) (len : Int32) (ec : Int32) (ep : Int32) (pos : Int32) (bg : Int32) (bad : Int32) (plc : Int32) (sta : Int32) (shm : Int32) (w : Nat → Int32) (p0 : Int32) (ht : 0 ≤ p0.toInt ∧ p0.toInt < 8) : gM l G yX7_bitsOf cX7_bitsOf 4 (some .int) { frames := 0, cells := 0, slots := 0, locals := 0 } [.ref m0, .int p0] [(m0, .inr (10, [.int rz, .ref m1, .ref m2, .ref m3, .int hf, .int hs, .ref m6, .int len, .int ec, .int ep, .int pos, .int bg, .int bad, .ref m13, .ref m14, .int plc, .int sta, .ref m17, .ref m18, .ref m19, .int shm])), (m1, .inl (G.2.1.1, 670, .inl w))] (some (.int (f_X7_bitsOf w p0))) [(m0, .inr (10, [.int rz, .ref m1, .ref m2, .ref m3, .int hf, .int hs, .ref m6, .int len, .int ec, .int ep, .int pos, .int bg, .int bad, .ref m13, .ref m14, .int plc, .int sta, .ref m17, .ref m18, .ref m19, .int shm])), (m1, .inl (G.2.1.1, 670, .inl w))] 0 0 := by
  refine gBegin (by decide +kernel) (Nat.le_of_ble_eq_true rfl) (fun p e s m args below meth c A F hr hlocks hname hN hK hP hD hA hS ls hl => ?_)
  obtain ⟨hx, hb, hml, hown, hts⟩ := id F
  replace hP : va_P G.1 vwCl [(m0, .inr (10, [.int rz, .ref m1, .ref m2, .ref m3, .int hf, .int hs, .ref m6, .int len, .int ec, .int ep, .int pos, .int bg, .int bad, .ref m13, .ref m14, .int plc, .int sta, .ref m17, .ref m18, .ref m19, .int shm])), (m1, .inl (G.2.1.1, 670, .inl w))] s.heap := hP
  replace hl : lv_has ls 4 [(0, .ref m0), (1, .int p0)] := hl
  refine lv_iconst (v := 0) hx hb dX7_bitsOf_0 (by decide) ?_
  refine lv_istore_n (lv' := [(2, .int 0), (0, .ref m0), (1, .int p0)]) hx hb dX7_bitsOf_1 rfl hl (by decide) rfl (fun ls hl => ?_)
  refine lv_iconst (v := 0) hx hb dX7_bitsOf_2 (by decide) ?_
  refine lv_istore_n (lv' := [(3, .int 0), (2, .int 0), (0, .ref m0), (1, .int p0)]) hx hb dX7_bitsOf_3 rfl hl (by decide) rfl (fun ls hl => ?_)
  have loop_4 : ∀ (fu k : Nat), k + fu = 640 → ∀ (H : Heap) (locs : List Loc), va_P G.1 vwCl [(m0, .inr (10, [.int rz, .ref m1, .ref m2, .ref m3, .int hf, .int hs, .ref m6, .int len, .int ec, .int ep, .int pos, .int bg, .int bad, .ref m13, .ref m14, .int plc, .int sta, .ref m17, .ref m18, .ref m19, .int shm])), (m1, .inl (G.2.1.1, 670, .inl w))] H → va_D A [(m0, .inr (10, [.int rz, .ref m1, .ref m2, .ref m3, .int hf, .int hs, .ref m6, .int len, .int ec, .int ep, .int pos, .int bg, .int bad, .ref m13, .ref m14, .int plc, .int sta, .ref m17, .ref m18, .ref m19, .int shm])), (m1, .inl (G.2.1.1, 670, .inl w))] → va_S A s.heap H locs → ∀ ls : Array Slot, lv_has ls 4 [(3, .int (nI k)), (2, .int (it_X7_bitsOf_4 w p0 k)), (0, .ref m0), (1, .int p0)] → W p l e { frames := 0, cells := 0, slots := 0, locals := 0 } s m args below meth c H locs 0 0 (MQ below (gQ G (some (.int (f_X7_bitsOf w p0))) [(m0, .inr (10, [.int rz, .ref m1, .ref m2, .ref m3, .int hf, .int hs, .ref m6, .int len, .int ec, .int ep, .int pos, .int bg, .int bad, .ref m13, .ref m14, .int plc, .int sta, .ref m17, .ref m18, .ref m19, .int shm])), (m1, .inl (G.2.1.1, 670, .inl w))] A) args s 0 0 A) (F0 m 4 ls []) := by
    intro fu
    induction fu with
    | zero =>
      intro k hk H locs hP hD hS ls hl
      have ek : 640 = k := by omega
      subst ek
      replace hP : va_P G.1 vwCl [(m0, .inr (10, [.int rz, .ref m1, .ref m2, .ref m3, .int hf, .int hs, .ref m6, .int len, .int ec, .int ep, .int pos, .int bg, .int bad, .ref m13, .ref m14, .int plc, .int sta, .ref m17, .ref m18, .ref m19, .int shm])), (m1, .inl (G.2.1.1, 670, .inl w))] H := hP
      replace hD : va_D A [(m0, .inr (10, [.int rz, .ref m1, .ref m2, .ref m3, .int hf, .int hs, .ref m6, .int len, .int ec, .int ep, .int pos, .int bg, .int bad, .ref m13, .ref m14, .int plc, .int sta, .ref m17, .ref m18, .ref m19, .int shm])), (m1, .inl (G.2.1.1, 670, .inl w))] := hD
      replace hl : lv_has ls 4 [(3, .int (nI 640)), (2, .int (it_X7_bitsOf_4 w p0 640)), (0, .ref m0), (1, .int p0)] := hl
      refine lv_iload_n hx hb dX7_bitsOf_4 rfl (lv_at hl 0 rfl) ?_
      refine lv_sipush (v := 640) hx hb dX7_bitsOf_5 (by decide) ?_
      refine lv_icmp_ge (tgt := 45) hx hb dX7_bitsOf_8 (by decide) (fun c_1 => ?_) (fun c_1 => ?_)
      · skip
        refine lv_iload_n hx hb dX7_bitsOf_45 rfl (lv_at hl 1 rfl) ?_
        exact gRetI F hr hlocks hK hP hD hS rfl rfl (Nat.le_of_ble_eq_true rfl) (Nat.le_of_ble_eq_true rfl) dX7_bitsOf_46
      · exact absurd (Int32.le_refl _) c_1
    | succ fu ih =>
      intro k hk H locs hP hD hS ls hl
      have hlt_k : k < 640 := by omega
      refine lv_iload_n hx hb dX7_bitsOf_4 rfl (lv_at hl 0 rfl) ?_
      refine lv_sipush (v := 640) hx hb dX7_bitsOf_5 (by decide) ?_
      refine lv_icmp_ge (tgt := 45) hx hb dX7_bitsOf_8 (by decide) (fun c_2 => ?_) (fun c_2 => ?_)
      · exact absurd c_2 (nI_ge hlt_k (by decide))
      · skip
        refine lv_iload_n hx hb dX7_bitsOf_11 rfl (lv_at hl 1 rfl) ?_
        refine lv_aload_n hx hb dX7_bitsOf_12 rfl (lv_at hl 2 rfl) ?_
        refine va_get (D := G.1) (ci := 10) (v := .ref m1) (C := RX7) (T := TX7) (N := 21) hx hb hts in_X7 hown hK hP 0 rfl rfl 1 (by decide) (hts _ k_fl_X7_7) (fun _ h9 => h9) rfl dX7_bitsOf_13 ?_
        refine lv_sipush (v := 414) hx hb dX7_bitsOf_16 (by decide) ?_
        refine lv_bipush (v := 32) hx hb dX7_bitsOf_19 (by decide) ?_
        refine lv_iload_n hx hb dX7_bitsOf_21 rfl (lv_at hl 3 rfl) ?_
        refine lv_imul hx hb dX7_bitsOf_22 ?_
        refine lv_iadd hx hb dX7_bitsOf_23 ?_
        refine lv_iload_n hx hb dX7_bitsOf_24 rfl (lv_at hl 0 rfl) ?_
        refine lv_bipush (v := 20) hx hb dX7_bitsOf_25 (by decide) ?_
        refine lv_idiv hx hb dX7_bitsOf_27 (by decide) ?_
        refine lv_iadd hx hb dX7_bitsOf_28 ?_
        refine va_iald hx hb hK hP 1 0 rfl rfl (by have z0 : (414 : Int32).toInt = 414 := (by decide); have z1 : (32 : Int32).toInt = 32 := (by decide); (try have z3 := gI_mul (x := 32) (y := p0) (by (try rw [z1]); (try rw [z2]); omega) (by (try rw [z1]); (try rw [z2]); omega)); (try rw [z1, z2] at z3); (try rw [z1] at z3); (try rw [z2] at z3); (try have z4 := gI_add (x := 414) (y := (32 * p0)) (by omega) (by omega)); have z5 := nI_toInt (n := k) (by omega); (try have z6 := gI_divL (x := (nI k)) (y := 20) (d := 20) (by omega) (by decide) (by decide)); (try have z7 := gI_add (x := (414 + (32 * p0))) (y := ((nI k) / 20)) (by omega) (by omega)); (try rw [vp_in_iff]); omega) dX7_bitsOf_29 ?_
        refine lv_iload_n hx hb dX7_bitsOf_30 rfl (lv_at hl 0 rfl) ?_
        refine lv_bipush (v := 20) hx hb dX7_bitsOf_31 (by decide) ?_
        refine gIrem hx hb dX7_bitsOf_33 (by decide) ?_
        refine lv_ishr hx hb dX7_bitsOf_34 ?_
        refine lv_iconst (v := 1) hx hb dX7_bitsOf_35 (by decide) ?_
        refine lv_iand hx hb dX7_bitsOf_36 ?_
        refine lv_iadd hx hb dX7_bitsOf_37 ?_
        refine lv_istore_n (lv' := [(2, .int ((it_X7_bitsOf_4 w p0 k) + ((((w (Int32.toNatClampNeg ((414 + (32 * p0)) + ((nI k) / 20)))) >>> (((nI k) % 20) &&& 31)) : Int32) &&& 1))), (3, .int (nI k)), (0, .ref m0), (1, .int p0)]) hx hb dX7_bitsOf_38 rfl hl (by decide) rfl (fun ls hl => ?_)
        refine lv_iinc (v := (nI (k + 1))) (lv' := [(3, .int (nI (k + 1))), (2, .int ((it_X7_bitsOf_4 w p0 k) + ((((w (Int32.toNatClampNeg ((414 + (32 * p0)) + ((nI k) / 20)))) >>> (((nI k) % 20) &&& 31)) : Int32) &&& 1))), (0, .ref m0), (1, .int p0)]) hx hb dX7_bitsOf_39 hl (k := 1) rfl (nI_1 k) (by decide) rfl (fun ls hl => ?_)
        refine lv_goto (tgt := 4) hx hb dX7_bitsOf_42 (by decide) ?_
        have ek : (it_X7_bitsOf_4 w p0 (k + 1)) = ((it_X7_bitsOf_4 w p0 k) + ((((w (Int32.toNatClampNeg ((414 + (32 * p0)) + ((nI k) / 20)))) >>> (((nI k) % 20) &&& 31)) : Int32) &&& 1)) := rfl
        exact ih (k + 1) (by omega) _ _ hP hD hS ls (lv_sub hl [0, 1, 2, 3] (by rw [ek]; rfl))
  exact loop_4 640 0 (by omega) _ _ hP hD hS ls (lv_sub hl [0, 1, 2, 3] rfl)
theorem okV_X7_bitsOf : gOkV yX7_bitsOf cX7_bitsOf 4 (some .int) 1 := ⟨⟨k_im_X7_bitsOf, k_se_X7_bitsOf, k_in_X7, k_cd_X7_bitsOf⟩, by decide, by decide, by decide +kernel⟩
def st_X7_clearTank_26 (p0 : Int32) (k : Nat) (v0_ : Nat → Int32) : (Nat → Int32) :=
  (upd v0_ (Int32.toNatClampNeg ((414 + (32 * p0)) + (nI k))) 0)
def it_X7_clearTank_26 (w : Nat → Int32) (p0 : Int32) : Nat → (Nat → Int32)
  | 0 => w
  | i + 1 => st_X7_clearTank_26 p0 i (it_X7_clearTank_26 w p0 i)
def f_X7_clearTank (w : Nat → Int32) (p0 : Int32) : Int32 × Int32 × (Nat → Int32) :=
  if (f_X7_isTank p0) = 0 then
    ((f_X7_fails 1).1, (f_X7_fails 1).2, w)
  else
    ((f_X7_bitsOf w p0), 0, (it_X7_clearTank_26 w p0 32))
set_option maxRecDepth 100000 in
set_option maxHeartbeats 4000000 in
theorem c_X7_clearTank (l : Launch) (G : gG) (m0 : Nat) (m1 : Nat) (m2 : Nat) (m3 : Nat) (m6 : Nat) (m13 : Nat) (m14 : Nat) (m17 : Nat) (m18 : Nat) (m19 : Nat) (rz : Int32) (hf : Int32) (hs : Int32) (len : Int32) (ec : Int32) (ep : Int32) (pos : Int32) (bg : Int32) (bad : Int32) (plc : Int32) (sta : Int32) (shm : Int32) (w : Nat → Int32) (p0 : Int32) : gM l G yX7_clearTank cX7_clearTank 4 (some .int) { frames := 2, cells := 0, slots := 0, locals := 45 } [.ref m0, .int p0] [(m0, .inr (10, [.int rz, .ref m1, .ref m2, .ref m3, .int hf, .int hs, .ref m6, .int len, .int ec, .int ep, .int pos, .int bg, .int bad, .ref m13, .ref m14, .int plc, .int sta, .ref m17, .ref m18, .ref m19, .int shm])), (m1, .inl (G.2.1.1, 670, .inl w))] (some (.int ((f_X7_clearTank w p0).1))) [(m0, .inr (10, [.int ((f_X7_clearTank w p0).2.1), .ref m1, .ref m2, .ref m3, .int hf, .int hs, .ref m6, .int len, .int ec, .int ep, .int pos, .int bg, .int bad, .ref m13, .ref m14, .int plc, .int sta, .ref m17, .ref m18, .ref m19, .int shm])), (m1, .inl (G.2.1.1, 670, .inl ((f_X7_clearTank w p0).2.2)))] 0 0 := by
  refine gBegin (by decide +kernel) (Nat.le_of_ble_eq_true rfl) (fun p e s m args below meth c A F hr hlocks hname hN hK hP hD hA hS ls hl => ?_)
  obtain ⟨hx, hb, hml, hown, hts⟩ := id F
  replace hP : va_P G.1 vwCl [(m0, .inr (10, [.int rz, .ref m1, .ref m2, .ref m3, .int hf, .int hs, .ref m6, .int len, .int ec, .int ep, .int pos, .int bg, .int bad, .ref m13, .ref m14, .int plc, .int sta, .ref m17, .ref m18, .ref m19, .int shm])), (m1, .inl (G.2.1.1, 670, .inl w))] s.heap := hP
  replace hl : lv_has ls 4 [(0, .ref m0), (1, .int p0)] := hl
  refine lv_aload_n hx hb dX7_clearTank_0 rfl (lv_at hl 0 rfl) ?_
  refine lv_iconst (v := 0) hx hb dX7_clearTank_1 (by decide) ?_
  refine va_put (D := G.1) (ci := 10) (v := .int 0) (ty := .int) (C := RX7) (T := TX7) (N := 21) hx hb hts in_X7 tyX7 tyX7_ok nmX7 hown hK hP hD hS 0 rfl rfl 0 (by decide) (hts _ k_fl_X7_76) (fun _ h9 => h9) rfl (by decide +kernel) rfl rfl (Nat.le_of_ble_eq_true rfl) dX7_clearTank_2 (fun H locs hP hD hS => ?_)
  replace hP : va_P G.1 vwCl [(m0, .inr (10, [.int 0, .ref m1, .ref m2, .ref m3, .int hf, .int hs, .ref m6, .int len, .int ec, .int ep, .int pos, .int bg, .int bad, .ref m13, .ref m14, .int plc, .int sta, .ref m17, .ref m18, .ref m19, .int shm])), (m1, .inl (G.2.1.1, 670, .inl w))] H := hP
  replace hD : va_D A [(m0, .inr (10, [.int 0, .ref m1, .ref m2, .ref m3, .int hf, .int hs, .ref m6, .int len, .int ec, .int ep, .int pos, .int bg, .int bad, .ref m13, .ref m14, .int plc, .int sta, .ref m17, .ref m18, .ref m19, .int shm])), (m1, .inl (G.2.1.1, 670, .inl w))] := hD
  refine lv_iload_n hx hb dX7_clearTank_5 rfl (lv_at hl 1 rfl) ?_
  refine gS (As := [.int p0]) (rest := []) (wr := [(m0, .inr (10, [.int 0, .ref m1, .ref m2, .ref m3, .int hf, .int hs, .ref m6, .int len, .int ec, .int ep, .int pos, .int bg, .int bad, .ref m13, .ref m14, .int plc, .int sta, .ref m17, .ref m18, .ref m19, .int shm])), (m1, .inl (G.2.1.1, 670, .inl w))]) (ws' := [(m0, .inr (10, [.int 0, .ref m1, .ref m2, .ref m3, .int hf, .int hs, .ref m6, .int len, .int ec, .int ep, .int pos, .int bg, .int bad, .ref m13, .ref m14, .int plc, .int sta, .ref m17, .ref m18, .ref m19, .int shm])), (m1, .inl (G.2.1.1, 670, .inl w))]) F (c_X7_isTank l G p0) okS_X7_isTank k_ml_X7_85 rfl rfl ⟨Nat.le_of_ble_eq_true rfl, Nat.le_of_ble_eq_true rfl⟩ hN hK hP hD hS hA [] [0, 1] [0, 1] (by decide) rfl rfl (by decide) (by decide) (by decide) rfl rfl rfl hl.1 (Nat.le_of_ble_eq_true rfl) dX7_clearTank_6 ⟨Nat.le_refl _, Nat.le_refl _⟩ (fun H locs hP hD hS => ?_)
  refine lv_if_ne (tgt := 18) hx hb dX7_clearTank_9 (by decide) (fun c_1 => ?_) (fun c_1 => ?_)
  · skip
    refine lv_aload_n hx hb dX7_clearTank_18 rfl (lv_at hl 0 rfl) ?_
    refine lv_iload_n hx hb dX7_clearTank_19 rfl (lv_at hl 1 rfl) ?_
    refine gV (As := [.int p0]) (rest := []) (wr := []) (ws' := [(m0, .inr (10, [.int 0, .ref m1, .ref m2, .ref m3, .int hf, .int hs, .ref m6, .int len, .int ec, .int ep, .int pos, .int bg, .int bad, .ref m13, .ref m14, .int plc, .int sta, .ref m17, .ref m18, .ref m19, .int shm])), (m1, .inl (G.2.1.1, 670, .inl w))]) F (c_X7_bitsOf l G m0 m1 m2 m3 m6 m13 m14 m17 m18 m19 0 hf hs len ec ep pos bg bad plc sta shm w p0 (by have qc_1 := tank_of c_1; omega)) okV_X7_bitsOf k_ml_X7_204 rfl rfl ⟨Nat.le_of_ble_eq_true rfl, Nat.le_of_ble_eq_true rfl⟩ hN hK hP hD hS hA [0, 1] [] [0, 1] (by decide) rfl rfl (by decide) (by decide) (by decide) rfl (q0 := 0) rfl rfl rfl rfl hl.1 (Nat.le_of_ble_eq_true rfl) dX7_clearTank_20 ⟨Nat.le_refl _, Nat.le_refl _⟩ (fun H locs hP hD hS => ?_)
    refine lv_istore_n (lv' := [(2, .int (f_X7_bitsOf w p0)), (0, .ref m0), (1, .int p0)]) hx hb dX7_clearTank_23 rfl hl (by decide) rfl (fun ls hl => ?_)
    refine lv_iconst (v := 0) hx hb dX7_clearTank_24 (by decide) ?_
    refine lv_istore_n (lv' := [(3, .int 0), (2, .int (f_X7_bitsOf w p0)), (0, .ref m0), (1, .int p0)]) hx hb dX7_clearTank_25 rfl hl (by decide) rfl (fun ls hl => ?_)
    have loop_26 : ∀ (fu k : Nat), k + fu = 32 → ∀ (H : Heap) (locs : List Loc), va_P G.1 vwCl [(m0, .inr (10, [.int 0, .ref m1, .ref m2, .ref m3, .int hf, .int hs, .ref m6, .int len, .int ec, .int ep, .int pos, .int bg, .int bad, .ref m13, .ref m14, .int plc, .int sta, .ref m17, .ref m18, .ref m19, .int shm])), (m1, .inl (G.2.1.1, 670, .inl (it_X7_clearTank_26 w p0 k)))] H → va_D A [(m0, .inr (10, [.int 0, .ref m1, .ref m2, .ref m3, .int hf, .int hs, .ref m6, .int len, .int ec, .int ep, .int pos, .int bg, .int bad, .ref m13, .ref m14, .int plc, .int sta, .ref m17, .ref m18, .ref m19, .int shm])), (m1, .inl (G.2.1.1, 670, .inl (it_X7_clearTank_26 w p0 k)))] → va_S A s.heap H locs → ∀ ls : Array Slot, lv_has ls 4 [(3, .int (nI k)), (2, .int (f_X7_bitsOf w p0)), (0, .ref m0), (1, .int p0)] → W p l e { frames := 2, cells := 0, slots := 0, locals := 45 } s m args below meth c H locs 0 0 (MQ below (gQ G (some (.int ((f_X7_clearTank w p0).1))) [(m0, .inr (10, [.int ((f_X7_clearTank w p0).2.1), .ref m1, .ref m2, .ref m3, .int hf, .int hs, .ref m6, .int len, .int ec, .int ep, .int pos, .int bg, .int bad, .ref m13, .ref m14, .int plc, .int sta, .ref m17, .ref m18, .ref m19, .int shm])), (m1, .inl (G.2.1.1, 670, .inl ((f_X7_clearTank w p0).2.2)))] A) args s 0 0 A) (F0 m 26 ls []) := by
      intro fu
      induction fu with
      | zero =>
        intro k hk H locs hP hD hS ls hl
        have ek : 32 = k := by omega
        subst ek
        replace hP : va_P G.1 vwCl [(m0, .inr (10, [.int 0, .ref m1, .ref m2, .ref m3, .int hf, .int hs, .ref m6, .int len, .int ec, .int ep, .int pos, .int bg, .int bad, .ref m13, .ref m14, .int plc, .int sta, .ref m17, .ref m18, .ref m19, .int shm])), (m1, .inl (G.2.1.1, 670, .inl (it_X7_clearTank_26 w p0 32)))] H := hP
        replace hD : va_D A [(m0, .inr (10, [.int 0, .ref m1, .ref m2, .ref m3, .int hf, .int hs, .ref m6, .int len, .int ec, .int ep, .int pos, .int bg, .int bad, .ref m13, .ref m14, .int plc, .int sta, .ref m17, .ref m18, .ref m19, .int shm])), (m1, .inl (G.2.1.1, 670, .inl (it_X7_clearTank_26 w p0 32)))] := hD
        replace hl : lv_has ls 4 [(3, .int (nI 32)), (2, .int (f_X7_bitsOf w p0)), (0, .ref m0), (1, .int p0)] := hl
        refine lv_iload_n hx hb dX7_clearTank_26 rfl (lv_at hl 0 rfl) ?_
        refine lv_bipush (v := 32) hx hb dX7_clearTank_27 (by decide) ?_
        refine lv_icmp_ge (tgt := 54) hx hb dX7_clearTank_29 (by decide) (fun c_2 => ?_) (fun c_2 => ?_)
        · skip
          refine lv_iload_n hx hb dX7_clearTank_54 rfl (lv_at hl 1 rfl) ?_
          have ef : (f_X7_clearTank w p0) = ((f_X7_bitsOf w p0), 0, (it_X7_clearTank_26 w p0 32)) := (if_neg c_1)
          exact gRetI F hr hlocks hK hP hD hS (by rw [ef]) (by rw [ef]) (Nat.le_of_ble_eq_true rfl) (Nat.le_of_ble_eq_true rfl) dX7_clearTank_55
        · exact absurd (Int32.le_refl _) c_2
      | succ fu ih =>
        intro k hk H locs hP hD hS ls hl
        have hlt_k : k < 32 := by omega
        refine lv_iload_n hx hb dX7_clearTank_26 rfl (lv_at hl 0 rfl) ?_
        refine lv_bipush (v := 32) hx hb dX7_clearTank_27 (by decide) ?_
        refine lv_icmp_ge (tgt := 54) hx hb dX7_clearTank_29 (by decide) (fun c_3 => ?_) (fun c_3 => ?_)
        · exact absurd c_3 (nI_ge hlt_k (by decide))
        · skip
          refine lv_aload_n hx hb dX7_clearTank_32 rfl (lv_at hl 2 rfl) ?_
          refine va_get (D := G.1) (ci := 10) (v := .ref m1) (C := RX7) (T := TX7) (N := 21) hx hb hts in_X7 hown hK hP 0 rfl rfl 1 (by decide) (hts _ k_fl_X7_7) (fun _ h9 => h9) rfl dX7_clearTank_33 ?_
          refine lv_sipush (v := 414) hx hb dX7_clearTank_36 (by decide) ?_
          refine lv_bipush (v := 32) hx hb dX7_clearTank_39 (by decide) ?_
          refine lv_iload_n hx hb dX7_clearTank_41 rfl (lv_at hl 3 rfl) ?_
          refine lv_imul hx hb dX7_clearTank_42 ?_
          refine lv_iadd hx hb dX7_clearTank_43 ?_
          refine lv_iload_n hx hb dX7_clearTank_44 rfl (lv_at hl 0 rfl) ?_
          refine lv_iadd hx hb dX7_clearTank_45 ?_
          refine lv_iconst (v := 0) hx hb dX7_clearTank_46 (by decide) ?_
          refine va_iast hx hb hK hP hD hS 1 0 rfl rfl (by have qc_1 := tank_of c_1; have z0 : (414 : Int32).toInt = 414 := (by decide); have z1 : (32 : Int32).toInt = 32 := (by decide); (try have z3 := gI_mul (x := 32) (y := p0) (by (try rw [z1]); (try rw [z2]); omega) (by (try rw [z1]); (try rw [z2]); omega)); (try rw [z1, z2] at z3); (try rw [z1] at z3); (try rw [z2] at z3); (try have z4 := gI_add (x := 414) (y := (32 * p0)) (by omega) (by omega)); have z5 := nI_toInt (n := k) (by omega); (try have z6 := gI_add (x := (414 + (32 * p0))) (y := (nI k)) (by omega) (by omega)); (try rw [vp_in_iff]); omega) dX7_clearTank_47 (fun H locs hP hD hS => ?_)
          replace hP : va_P G.1 vwCl [(m0, .inr (10, [.int 0, .ref m1, .ref m2, .ref m3, .int hf, .int hs, .ref m6, .int len, .int ec, .int ep, .int pos, .int bg, .int bad, .ref m13, .ref m14, .int plc, .int sta, .ref m17, .ref m18, .ref m19, .int shm])), (m1, .inl (G.2.1.1, 670, .inl (upd (it_X7_clearTank_26 w p0 k) (Int32.toNatClampNeg ((414 + (32 * p0)) + (nI k))) 0)))] H := hP
          replace hD : va_D A [(m0, .inr (10, [.int 0, .ref m1, .ref m2, .ref m3, .int hf, .int hs, .ref m6, .int len, .int ec, .int ep, .int pos, .int bg, .int bad, .ref m13, .ref m14, .int plc, .int sta, .ref m17, .ref m18, .ref m19, .int shm])), (m1, .inl (G.2.1.1, 670, .inl (upd (it_X7_clearTank_26 w p0 k) (Int32.toNatClampNeg ((414 + (32 * p0)) + (nI k))) 0)))] := hD
          refine lv_iinc (v := (nI (k + 1))) (lv' := [(3, .int (nI (k + 1))), (2, .int (f_X7_bitsOf w p0)), (0, .ref m0), (1, .int p0)]) hx hb dX7_clearTank_48 hl (k := 0) rfl (nI_1 k) (by decide) rfl (fun ls hl => ?_)
          refine lv_goto (tgt := 26) hx hb dX7_clearTank_51 (by decide) ?_
          have ek : (it_X7_clearTank_26 w p0 (k + 1)) = (upd (it_X7_clearTank_26 w p0 k) (Int32.toNatClampNeg ((414 + (32 * p0)) + (nI k))) 0) := rfl
          exact ih (k + 1) (by omega) _ _ (by rw [ek]; exact hP) (by rw [ek]; exact hD) hS ls (lv_sub hl [0, 1, 2, 3] rfl)
    exact loop_26 32 0 (by omega) _ _ hP hD hS ls (lv_sub hl [0, 1, 2, 3] rfl)
  · skip
    refine lv_aload_n hx hb dX7_clearTank_12 rfl (lv_at hl 0 rfl) ?_
    refine lv_iconst (v := 1) hx hb dX7_clearTank_13 (by decide) ?_
    refine gV (As := [.int 1]) (rest := []) (wr := [(m1, .inl (G.2.1.1, 670, .inl w))]) (ws' := [(m0, .inr (10, [.int ((f_X7_fails 1).2), .ref m1, .ref m2, .ref m3, .int hf, .int hs, .ref m6, .int len, .int ec, .int ep, .int pos, .int bg, .int bad, .ref m13, .ref m14, .int plc, .int sta, .ref m17, .ref m18, .ref m19, .int shm])), (m1, .inl (G.2.1.1, 670, .inl w))]) F (c_X7_fails l G m0 m1 m2 m3 m6 m13 m14 m17 m18 m19 0 hf hs len ec ep pos bg bad plc sta shm 1) okV_X7_fails k_ml_X7_98 rfl rfl ⟨Nat.le_of_ble_eq_true rfl, Nat.le_of_ble_eq_true rfl⟩ hN hK hP hD hS hA [0] [1] [1, 0] (by decide) rfl rfl (by decide) (by decide) (by decide) rfl (q0 := 0) rfl rfl rfl rfl hl.1 (Nat.le_of_ble_eq_true rfl) dX7_clearTank_14 ⟨Nat.le_refl _, Nat.le_refl _⟩ (fun H locs hP hD hS => ?_)
    have ef : (f_X7_clearTank w p0) = ((f_X7_fails 1).1, (f_X7_fails 1).2, w) := (if_pos c_1)
    exact gRetI F hr hlocks hK hP hD hS (by rw [ef]) (by rw [ef]) (Nat.le_of_ble_eq_true rfl) (Nat.le_of_ble_eq_true rfl) dX7_clearTank_17
theorem okV_X7_clearTank : gOkV yX7_clearTank cX7_clearTank 4 (some .int) 1 := ⟨⟨k_im_X7_clearTank, k_se_X7_clearTank, k_in_X7, k_cd_X7_clearTank⟩, by decide, by decide, by decide +kernel⟩
def f_X7_exchange (w : Nat → Int32) (p0 : Int32) (p1 : Int32) : (Nat → Int32) :=
  (upd (upd w (Int32.toNatClampNeg p0) (w (Int32.toNatClampNeg p1))) (Int32.toNatClampNeg p1) (w (Int32.toNatClampNeg p0)))
set_option maxRecDepth 100000 in
set_option maxHeartbeats 4000000 in
theorem c_X7_exchange (l : Launch) (G : gG) (m0 : Nat) (m1 : Nat) (m2 : Nat) (m3 : Nat) (m6 : Nat) (m13 : Nat) (m14 : Nat) (m17 : Nat) (m18 : Nat) (m19 : Nat) (rz : Int32) (hf : Int32) (hs : Int32) (len : Int32) (ec : Int32) (ep : Int32) (pos : Int32) (bg : Int32) (bad : Int32) (plc : Int32) (sta : Int32) (shm : Int32) (w : Nat → Int32) (p0 : Int32) (p1 : Int32) (h0 : 0 ≤ p0.toInt ∧ p0.toInt < 670) (h1 : 0 ≤ p1.toInt ∧ p1.toInt < 670) : gM l G yX7_exchange cX7_exchange 4 none { frames := 0, cells := 0, slots := 0, locals := 0 } [.ref m0, .int p0, .int p1] [(m0, .inr (10, [.int rz, .ref m1, .ref m2, .ref m3, .int hf, .int hs, .ref m6, .int len, .int ec, .int ep, .int pos, .int bg, .int bad, .ref m13, .ref m14, .int plc, .int sta, .ref m17, .ref m18, .ref m19, .int shm])), (m1, .inl (G.2.1.1, 670, .inl w))] none [(m0, .inr (10, [.int rz, .ref m1, .ref m2, .ref m3, .int hf, .int hs, .ref m6, .int len, .int ec, .int ep, .int pos, .int bg, .int bad, .ref m13, .ref m14, .int plc, .int sta, .ref m17, .ref m18, .ref m19, .int shm])), (m1, .inl (G.2.1.1, 670, .inl (f_X7_exchange w p0 p1)))] 0 0 := by
  refine gBegin (by decide +kernel) (Nat.le_of_ble_eq_true rfl) (fun p e s m args below meth c A F hr hlocks hname hN hK hP hD hA hS ls hl => ?_)
  obtain ⟨hx, hb, hml, hown, hts⟩ := id F
  replace hP : va_P G.1 vwCl [(m0, .inr (10, [.int rz, .ref m1, .ref m2, .ref m3, .int hf, .int hs, .ref m6, .int len, .int ec, .int ep, .int pos, .int bg, .int bad, .ref m13, .ref m14, .int plc, .int sta, .ref m17, .ref m18, .ref m19, .int shm])), (m1, .inl (G.2.1.1, 670, .inl w))] s.heap := hP
  replace hl : lv_has ls 4 [(0, .ref m0), (1, .int p0), (2, .int p1)] := hl
  refine lv_aload_n hx hb dX7_exchange_0 rfl (lv_at hl 0 rfl) ?_
  refine va_get (D := G.1) (ci := 10) (v := .ref m1) (C := RX7) (T := TX7) (N := 21) hx hb hts in_X7 hown hK hP 0 rfl rfl 1 (by decide) (hts _ k_fl_X7_7) (fun _ h9 => h9) rfl dX7_exchange_1 ?_
  refine lv_iload_n hx hb dX7_exchange_4 rfl (lv_at hl 1 rfl) ?_
  refine va_iald hx hb hK hP 1 0 rfl rfl (by (try rw [vp_in_iff]); omega) dX7_exchange_5 ?_
  refine lv_istore_n (lv' := [(3, .int (w (Int32.toNatClampNeg p0))), (0, .ref m0), (1, .int p0), (2, .int p1)]) hx hb dX7_exchange_6 rfl hl (by decide) rfl (fun ls hl => ?_)
  refine lv_aload_n hx hb dX7_exchange_7 rfl (lv_at hl 1 rfl) ?_
  refine va_get (D := G.1) (ci := 10) (v := .ref m1) (C := RX7) (T := TX7) (N := 21) hx hb hts in_X7 hown hK hP 0 rfl rfl 1 (by decide) (hts _ k_fl_X7_7) (fun _ h9 => h9) rfl dX7_exchange_8 ?_
  refine lv_iload_n hx hb dX7_exchange_11 rfl (lv_at hl 2 rfl) ?_
  refine lv_aload_n hx hb dX7_exchange_12 rfl (lv_at hl 1 rfl) ?_
  refine va_get (D := G.1) (ci := 10) (v := .ref m1) (C := RX7) (T := TX7) (N := 21) hx hb hts in_X7 hown hK hP 0 rfl rfl 1 (by decide) (hts _ k_fl_X7_7) (fun _ h9 => h9) rfl dX7_exchange_13 ?_
  refine lv_iload_n hx hb dX7_exchange_16 rfl (lv_at hl 3 rfl) ?_
  refine va_iald hx hb hK hP 1 0 rfl rfl (by (try rw [vp_in_iff]); omega) dX7_exchange_17 ?_
  refine va_iast hx hb hK hP hD hS 1 0 rfl rfl (by (try rw [vp_in_iff]); omega) dX7_exchange_18 (fun H locs hP hD hS => ?_)
  replace hP : va_P G.1 vwCl [(m0, .inr (10, [.int rz, .ref m1, .ref m2, .ref m3, .int hf, .int hs, .ref m6, .int len, .int ec, .int ep, .int pos, .int bg, .int bad, .ref m13, .ref m14, .int plc, .int sta, .ref m17, .ref m18, .ref m19, .int shm])), (m1, .inl (G.2.1.1, 670, .inl (upd w (Int32.toNatClampNeg p0) (w (Int32.toNatClampNeg p1)))))] H := hP
  replace hD : va_D A [(m0, .inr (10, [.int rz, .ref m1, .ref m2, .ref m3, .int hf, .int hs, .ref m6, .int len, .int ec, .int ep, .int pos, .int bg, .int bad, .ref m13, .ref m14, .int plc, .int sta, .ref m17, .ref m18, .ref m19, .int shm])), (m1, .inl (G.2.1.1, 670, .inl (upd w (Int32.toNatClampNeg p0) (w (Int32.toNatClampNeg p1)))))] := hD
  refine lv_aload_n hx hb dX7_exchange_19 rfl (lv_at hl 1 rfl) ?_
  refine va_get (D := G.1) (ci := 10) (v := .ref m1) (C := RX7) (T := TX7) (N := 21) hx hb hts in_X7 hown hK hP 0 rfl rfl 1 (by decide) (hts _ k_fl_X7_7) (fun _ h9 => h9) rfl dX7_exchange_20 ?_
  refine lv_iload_n hx hb dX7_exchange_23 rfl (lv_at hl 3 rfl) ?_
  refine lv_iload_n hx hb dX7_exchange_24 rfl (lv_at hl 0 rfl) ?_
  refine va_iast hx hb hK hP hD hS 1 0 rfl rfl (by (try rw [vp_in_iff]); omega) dX7_exchange_25 (fun H locs hP hD hS => ?_)
  replace hP : va_P G.1 vwCl [(m0, .inr (10, [.int rz, .ref m1, .ref m2, .ref m3, .int hf, .int hs, .ref m6, .int len, .int ec, .int ep, .int pos, .int bg, .int bad, .ref m13, .ref m14, .int plc, .int sta, .ref m17, .ref m18, .ref m19, .int shm])), (m1, .inl (G.2.1.1, 670, .inl (upd (upd w (Int32.toNatClampNeg p0) (w (Int32.toNatClampNeg p1))) (Int32.toNatClampNeg p1) (w (Int32.toNatClampNeg p0)))))] H := hP
  replace hD : va_D A [(m0, .inr (10, [.int rz, .ref m1, .ref m2, .ref m3, .int hf, .int hs, .ref m6, .int len, .int ec, .int ep, .int pos, .int bg, .int bad, .ref m13, .ref m14, .int plc, .int sta, .ref m17, .ref m18, .ref m19, .int shm])), (m1, .inl (G.2.1.1, 670, .inl (upd (upd w (Int32.toNatClampNeg p0) (w (Int32.toNatClampNeg p1))) (Int32.toNatClampNeg p1) (w (Int32.toNatClampNeg p0)))))] := hD
  exact gRetV F hr hlocks hK hP hD hS rfl rfl (Nat.le_of_ble_eq_true rfl) (Nat.le_of_ble_eq_true rfl) dX7_exchange_26
theorem okV_X7_exchange : gOkV yX7_exchange cX7_exchange 4 none 2 := ⟨⟨k_im_X7_exchange, k_se_X7_exchange, k_in_X7, k_cd_X7_exchange⟩, by decide, by decide, by decide +kernel⟩
def st_X7_swapTanks_27 (p0 : Int32) (p1 : Int32) (k : Nat) (v0_ : Nat → Int32) : (Nat → Int32) :=
  (f_X7_exchange v0_ ((414 + (32 * p0)) + (nI k)) ((414 + (32 * p1)) + (nI k)))
def it_X7_swapTanks_27 (w : Nat → Int32) (p0 : Int32) (p1 : Int32) : Nat → (Nat → Int32)
  | 0 => w
  | i + 1 => st_X7_swapTanks_27 p0 p1 i (it_X7_swapTanks_27 w p0 p1 i)
def f_X7_swapTanks (w : Nat → Int32) (p0 : Int32) (p1 : Int32) : Int32 × (Nat → Int32) :=
  if (f_X7_isTank p0) = 0 then
    (1, w)
  else
    if (f_X7_isTank p1) = 0 then
      (1, w)
    else
      (0, (f_X7_exchange (f_X7_exchange (it_X7_swapTanks_27 w p0 p1 32) (14 + p0) (14 + p1)) (22 + p0) (22 + p1)))
set_option maxRecDepth 100000 in
set_option maxHeartbeats 4000000 in
theorem c_X7_swapTanks (l : Launch) (G : gG) (m0 : Nat) (m1 : Nat) (m2 : Nat) (m3 : Nat) (m6 : Nat) (m13 : Nat) (m14 : Nat) (m17 : Nat) (m18 : Nat) (m19 : Nat) (rz : Int32) (hf : Int32) (hs : Int32) (len : Int32) (ec : Int32) (ep : Int32) (pos : Int32) (bg : Int32) (bad : Int32) (plc : Int32) (sta : Int32) (shm : Int32) (w : Nat → Int32) (p0 : Int32) (p1 : Int32) : gM l G yX7_swapTanks cX7_swapTanks 4 none { frames := 2, cells := 0, slots := 0, locals := 45 } [.ref m0, .int p0, .int p1] [(m0, .inr (10, [.int rz, .ref m1, .ref m2, .ref m3, .int hf, .int hs, .ref m6, .int len, .int ec, .int ep, .int pos, .int bg, .int bad, .ref m13, .ref m14, .int plc, .int sta, .ref m17, .ref m18, .ref m19, .int shm])), (m1, .inl (G.2.1.1, 670, .inl w))] none [(m0, .inr (10, [.int ((f_X7_swapTanks w p0 p1).1), .ref m1, .ref m2, .ref m3, .int hf, .int hs, .ref m6, .int len, .int ec, .int ep, .int pos, .int bg, .int bad, .ref m13, .ref m14, .int plc, .int sta, .ref m17, .ref m18, .ref m19, .int shm])), (m1, .inl (G.2.1.1, 670, .inl ((f_X7_swapTanks w p0 p1).2)))] 0 0 := by
  refine gBegin (by decide +kernel) (Nat.le_of_ble_eq_true rfl) (fun p e s m args below meth c A F hr hlocks hname hN hK hP hD hA hS ls hl => ?_)
  obtain ⟨hx, hb, hml, hown, hts⟩ := id F
  replace hP : va_P G.1 vwCl [(m0, .inr (10, [.int rz, .ref m1, .ref m2, .ref m3, .int hf, .int hs, .ref m6, .int len, .int ec, .int ep, .int pos, .int bg, .int bad, .ref m13, .ref m14, .int plc, .int sta, .ref m17, .ref m18, .ref m19, .int shm])), (m1, .inl (G.2.1.1, 670, .inl w))] s.heap := hP
  replace hl : lv_has ls 4 [(0, .ref m0), (1, .int p0), (2, .int p1)] := hl
  refine lv_aload_n hx hb dX7_swapTanks_0 rfl (lv_at hl 0 rfl) ?_
  refine lv_iconst (v := 0) hx hb dX7_swapTanks_1 (by decide) ?_
  refine va_put (D := G.1) (ci := 10) (v := .int 0) (ty := .int) (C := RX7) (T := TX7) (N := 21) hx hb hts in_X7 tyX7 tyX7_ok nmX7 hown hK hP hD hS 0 rfl rfl 0 (by decide) (hts _ k_fl_X7_76) (fun _ h9 => h9) rfl (by decide +kernel) rfl rfl (Nat.le_of_ble_eq_true rfl) dX7_swapTanks_2 (fun H locs hP hD hS => ?_)
  replace hP : va_P G.1 vwCl [(m0, .inr (10, [.int 0, .ref m1, .ref m2, .ref m3, .int hf, .int hs, .ref m6, .int len, .int ec, .int ep, .int pos, .int bg, .int bad, .ref m13, .ref m14, .int plc, .int sta, .ref m17, .ref m18, .ref m19, .int shm])), (m1, .inl (G.2.1.1, 670, .inl w))] H := hP
  replace hD : va_D A [(m0, .inr (10, [.int 0, .ref m1, .ref m2, .ref m3, .int hf, .int hs, .ref m6, .int len, .int ec, .int ep, .int pos, .int bg, .int bad, .ref m13, .ref m14, .int plc, .int sta, .ref m17, .ref m18, .ref m19, .int shm])), (m1, .inl (G.2.1.1, 670, .inl w))] := hD
  refine lv_iload_n hx hb dX7_swapTanks_5 rfl (lv_at hl 1 rfl) ?_
  refine gS (As := [.int p0]) (rest := []) (wr := [(m0, .inr (10, [.int 0, .ref m1, .ref m2, .ref m3, .int hf, .int hs, .ref m6, .int len, .int ec, .int ep, .int pos, .int bg, .int bad, .ref m13, .ref m14, .int plc, .int sta, .ref m17, .ref m18, .ref m19, .int shm])), (m1, .inl (G.2.1.1, 670, .inl w))]) (ws' := [(m0, .inr (10, [.int 0, .ref m1, .ref m2, .ref m3, .int hf, .int hs, .ref m6, .int len, .int ec, .int ep, .int pos, .int bg, .int bad, .ref m13, .ref m14, .int plc, .int sta, .ref m17, .ref m18, .ref m19, .int shm])), (m1, .inl (G.2.1.1, 670, .inl w))]) F (c_X7_isTank l G p0) okS_X7_isTank k_ml_X7_85 rfl rfl ⟨Nat.le_of_ble_eq_true rfl, Nat.le_of_ble_eq_true rfl⟩ hN hK hP hD hS hA [] [0, 1] [0, 1] (by decide) rfl rfl (by decide) (by decide) (by decide) rfl rfl rfl hl.1 (Nat.le_of_ble_eq_true rfl) dX7_swapTanks_6 ⟨Nat.le_refl _, Nat.le_refl _⟩ (fun H locs hP hD hS => ?_)
  refine lv_if_eq (tgt := 19) hx hb dX7_swapTanks_9 (by decide) (fun c_1 => ?_) (fun c_1 => ?_)
  · skip
    refine lv_aload_n hx hb dX7_swapTanks_19 rfl (lv_at hl 0 rfl) ?_
    refine lv_iconst (v := 1) hx hb dX7_swapTanks_20 (by decide) ?_
    refine va_put (D := G.1) (ci := 10) (v := .int 1) (ty := .int) (C := RX7) (T := TX7) (N := 21) hx hb hts in_X7 tyX7 tyX7_ok nmX7 hown hK hP hD hS 0 rfl rfl 0 (by decide) (hts _ k_fl_X7_76) (fun _ h9 => h9) rfl (by decide +kernel) rfl rfl (Nat.le_of_ble_eq_true rfl) dX7_swapTanks_21 (fun H locs hP hD hS => ?_)
    replace hP : va_P G.1 vwCl [(m0, .inr (10, [.int 1, .ref m1, .ref m2, .ref m3, .int hf, .int hs, .ref m6, .int len, .int ec, .int ep, .int pos, .int bg, .int bad, .ref m13, .ref m14, .int plc, .int sta, .ref m17, .ref m18, .ref m19, .int shm])), (m1, .inl (G.2.1.1, 670, .inl w))] H := hP
    replace hD : va_D A [(m0, .inr (10, [.int 1, .ref m1, .ref m2, .ref m3, .int hf, .int hs, .ref m6, .int len, .int ec, .int ep, .int pos, .int bg, .int bad, .ref m13, .ref m14, .int plc, .int sta, .ref m17, .ref m18, .ref m19, .int shm])), (m1, .inl (G.2.1.1, 670, .inl w))] := hD
    have ef : (f_X7_swapTanks w p0 p1) = (1, w) := (if_pos c_1)
    exact gRetV F hr hlocks hK hP hD hS rfl (by rw [ef]) (Nat.le_of_ble_eq_true rfl) (Nat.le_of_ble_eq_true rfl) dX7_swapTanks_24
  · skip
    refine lv_iload_n hx hb dX7_swapTanks_12 rfl (lv_at hl 2 rfl) ?_
    refine gS (As := [.int p1]) (rest := []) (wr := [(m0, .inr (10, [.int 0, .ref m1, .ref m2, .ref m3, .int hf, .int hs, .ref m6, .int len, .int ec, .int ep, .int pos, .int bg, .int bad, .ref m13, .ref m14, .int plc, .int sta, .ref m17, .ref m18, .ref m19, .int shm])), (m1, .inl (G.2.1.1, 670, .inl w))]) (ws' := [(m0, .inr (10, [.int 0, .ref m1, .ref m2, .ref m3, .int hf, .int hs, .ref m6, .int len, .int ec, .int ep, .int pos, .int bg, .int bad, .ref m13, .ref m14, .int plc, .int sta, .ref m17, .ref m18, .ref m19, .int shm])), (m1, .inl (G.2.1.1, 670, .inl w))]) F (c_X7_isTank l G p1) okS_X7_isTank k_ml_X7_85 rfl rfl ⟨Nat.le_of_ble_eq_true rfl, Nat.le_of_ble_eq_true rfl⟩ hN hK hP hD hS hA [] [0, 1] [0, 1] (by decide) rfl rfl (by decide) (by decide) (by decide) rfl rfl rfl hl.1 (Nat.le_of_ble_eq_true rfl) dX7_swapTanks_13 ⟨Nat.le_refl _, Nat.le_refl _⟩ (fun H locs hP hD hS => ?_)
    refine lv_if_ne (tgt := 25) hx hb dX7_swapTanks_16 (by decide) (fun c_2 => ?_) (fun c_2 => ?_)
    · skip
      refine lv_iconst (v := 0) hx hb dX7_swapTanks_25 (by decide) ?_
      refine lv_istore_n (lv' := [(3, .int 0), (0, .ref m0), (1, .int p0), (2, .int p1)]) hx hb dX7_swapTanks_26 rfl hl (by decide) rfl (fun ls hl => ?_)
      have loop_27 : ∀ (fu k : Nat), k + fu = 32 → ∀ (H : Heap) (locs : List Loc), va_P G.1 vwCl [(m0, .inr (10, [.int 0, .ref m1, .ref m2, .ref m3, .int hf, .int hs, .ref m6, .int len, .int ec, .int ep, .int pos, .int bg, .int bad, .ref m13, .ref m14, .int plc, .int sta, .ref m17, .ref m18, .ref m19, .int shm])), (m1, .inl (G.2.1.1, 670, .inl (it_X7_swapTanks_27 w p0 p1 k)))] H → va_D A [(m0, .inr (10, [.int 0, .ref m1, .ref m2, .ref m3, .int hf, .int hs, .ref m6, .int len, .int ec, .int ep, .int pos, .int bg, .int bad, .ref m13, .ref m14, .int plc, .int sta, .ref m17, .ref m18, .ref m19, .int shm])), (m1, .inl (G.2.1.1, 670, .inl (it_X7_swapTanks_27 w p0 p1 k)))] → va_S A s.heap H locs → ∀ ls : Array Slot, lv_has ls 4 [(3, .int (nI k)), (0, .ref m0), (1, .int p0), (2, .int p1)] → W p l e { frames := 2, cells := 0, slots := 0, locals := 45 } s m args below meth c H locs 0 0 (MQ below (gQ G none [(m0, .inr (10, [.int ((f_X7_swapTanks w p0 p1).1), .ref m1, .ref m2, .ref m3, .int hf, .int hs, .ref m6, .int len, .int ec, .int ep, .int pos, .int bg, .int bad, .ref m13, .ref m14, .int plc, .int sta, .ref m17, .ref m18, .ref m19, .int shm])), (m1, .inl (G.2.1.1, 670, .inl ((f_X7_swapTanks w p0 p1).2)))] A) args s 0 0 A) (F0 m 27 ls []) := by
        intro fu
        induction fu with
        | zero =>
          intro k hk H locs hP hD hS ls hl
          have ek : 32 = k := by omega
          subst ek
          replace hP : va_P G.1 vwCl [(m0, .inr (10, [.int 0, .ref m1, .ref m2, .ref m3, .int hf, .int hs, .ref m6, .int len, .int ec, .int ep, .int pos, .int bg, .int bad, .ref m13, .ref m14, .int plc, .int sta, .ref m17, .ref m18, .ref m19, .int shm])), (m1, .inl (G.2.1.1, 670, .inl (it_X7_swapTanks_27 w p0 p1 32)))] H := hP
          replace hD : va_D A [(m0, .inr (10, [.int 0, .ref m1, .ref m2, .ref m3, .int hf, .int hs, .ref m6, .int len, .int ec, .int ep, .int pos, .int bg, .int bad, .ref m13, .ref m14, .int plc, .int sta, .ref m17, .ref m18, .ref m19, .int shm])), (m1, .inl (G.2.1.1, 670, .inl (it_X7_swapTanks_27 w p0 p1 32)))] := hD
          replace hl : lv_has ls 4 [(3, .int (nI 32)), (0, .ref m0), (1, .int p0), (2, .int p1)] := hl
          refine lv_iload_n hx hb dX7_swapTanks_27 rfl (lv_at hl 0 rfl) ?_
          refine lv_bipush (v := 32) hx hb dX7_swapTanks_28 (by decide) ?_
          refine lv_icmp_ge (tgt := 63) hx hb dX7_swapTanks_30 (by decide) (fun c_3 => ?_) (fun c_3 => ?_)
          · skip
            refine lv_aload_n hx hb dX7_swapTanks_63 rfl (lv_at hl 1 rfl) ?_
            refine lv_bipush (v := 14) hx hb dX7_swapTanks_64 (by decide) ?_
            refine lv_iload_n hx hb dX7_swapTanks_66 rfl (lv_at hl 2 rfl) ?_
            refine lv_iadd hx hb dX7_swapTanks_67 ?_
            refine lv_bipush (v := 14) hx hb dX7_swapTanks_68 (by decide) ?_
            refine lv_iload_n hx hb dX7_swapTanks_70 rfl (lv_at hl 3 rfl) ?_
            refine lv_iadd hx hb dX7_swapTanks_71 ?_
            refine gV (As := [.int (14 + p0), .int (14 + p1)]) (rest := []) (wr := []) (ws' := [(m0, .inr (10, [.int 0, .ref m1, .ref m2, .ref m3, .int hf, .int hs, .ref m6, .int len, .int ec, .int ep, .int pos, .int bg, .int bad, .ref m13, .ref m14, .int plc, .int sta, .ref m17, .ref m18, .ref m19, .int shm])), (m1, .inl (G.2.1.1, 670, .inl (f_X7_exchange (it_X7_swapTanks_27 w p0 p1 32) (14 + p0) (14 + p1))))]) F (c_X7_exchange l G m0 m1 m2 m3 m6 m13 m14 m17 m18 m19 0 hf hs len ec ep pos bg bad plc sta shm (it_X7_swapTanks_27 w p0 p1 32) (14 + p0) (14 + p1) (by have qc_1 := tank_of c_1; have qc_2 := tank_of c_2; have z0 : (14 : Int32).toInt = 14 := (by decide); (try have z2 := gI_add (x := 14) (y := p0) (by omega) (by omega)); omega) (by have qc_1 := tank_of c_1; have qc_2 := tank_of c_2; have z0 : (14 : Int32).toInt = 14 := (by decide); (try have z2 := gI_add (x := 14) (y := p1) (by omega) (by omega)); omega)) okV_X7_exchange k_ml_X7_207 rfl rfl ⟨Nat.le_of_ble_eq_true rfl, Nat.le_of_ble_eq_true rfl⟩ hN hK hP hD hS hA [0, 1] [] [0, 1] (by decide) rfl rfl (by decide) (by decide) (by decide) rfl (q0 := 0) rfl rfl rfl rfl hl.1 (Nat.le_of_ble_eq_true rfl) dX7_swapTanks_72 ⟨Nat.le_refl _, Nat.le_refl _⟩ (fun H locs hP hD hS => ?_)
            refine lv_aload_n hx hb dX7_swapTanks_75 rfl (lv_at hl 1 rfl) ?_
            refine lv_bipush (v := 22) hx hb dX7_swapTanks_76 (by decide) ?_
            refine lv_iload_n hx hb dX7_swapTanks_78 rfl (lv_at hl 2 rfl) ?_
            refine lv_iadd hx hb dX7_swapTanks_79 ?_
            refine lv_bipush (v := 22) hx hb dX7_swapTanks_80 (by decide) ?_
            refine lv_iload_n hx hb dX7_swapTanks_82 rfl (lv_at hl 3 rfl) ?_
            refine lv_iadd hx hb dX7_swapTanks_83 ?_
            refine gV (As := [.int (22 + p0), .int (22 + p1)]) (rest := []) (wr := []) (ws' := [(m0, .inr (10, [.int 0, .ref m1, .ref m2, .ref m3, .int hf, .int hs, .ref m6, .int len, .int ec, .int ep, .int pos, .int bg, .int bad, .ref m13, .ref m14, .int plc, .int sta, .ref m17, .ref m18, .ref m19, .int shm])), (m1, .inl (G.2.1.1, 670, .inl (f_X7_exchange (f_X7_exchange (it_X7_swapTanks_27 w p0 p1 32) (14 + p0) (14 + p1)) (22 + p0) (22 + p1))))]) F (c_X7_exchange l G m0 m1 m2 m3 m6 m13 m14 m17 m18 m19 0 hf hs len ec ep pos bg bad plc sta shm (f_X7_exchange (it_X7_swapTanks_27 w p0 p1 32) (14 + p0) (14 + p1)) (22 + p0) (22 + p1) (by have qc_1 := tank_of c_1; have qc_2 := tank_of c_2; have z0 : (22 : Int32).toInt = 22 := (by decide); (try have z2 := gI_add (x := 22) (y := p0) (by omega) (by omega)); omega) (by have qc_1 := tank_of c_1; have qc_2 := tank_of c_2; have z0 : (22 : Int32).toInt = 22 := (by decide); (try have z2 := gI_add (x := 22) (y := p1) (by omega) (by omega)); omega)) okV_X7_exchange k_ml_X7_207 rfl rfl ⟨Nat.le_of_ble_eq_true rfl, Nat.le_of_ble_eq_true rfl⟩ hN hK hP hD hS hA [0, 1] [] [0, 1] (by decide) rfl rfl (by decide) (by decide) (by decide) rfl (q0 := 0) rfl rfl rfl rfl hl.1 (Nat.le_of_ble_eq_true rfl) dX7_swapTanks_84 ⟨Nat.le_refl _, Nat.le_refl _⟩ (fun H locs hP hD hS => ?_)
            have ef : (f_X7_swapTanks w p0 p1) = (0, (f_X7_exchange (f_X7_exchange (it_X7_swapTanks_27 w p0 p1 32) (14 + p0) (14 + p1)) (22 + p0) (22 + p1))) := ((if_neg c_1).trans (if_neg c_2))
            exact gRetV F hr hlocks hK hP hD hS rfl (by rw [ef]) (Nat.le_of_ble_eq_true rfl) (Nat.le_of_ble_eq_true rfl) dX7_swapTanks_87
          · exact absurd (Int32.le_refl _) c_3
        | succ fu ih =>
          intro k hk H locs hP hD hS ls hl
          have hlt_k : k < 32 := by omega
          refine lv_iload_n hx hb dX7_swapTanks_27 rfl (lv_at hl 0 rfl) ?_
          refine lv_bipush (v := 32) hx hb dX7_swapTanks_28 (by decide) ?_
          refine lv_icmp_ge (tgt := 63) hx hb dX7_swapTanks_30 (by decide) (fun c_4 => ?_) (fun c_4 => ?_)
          · exact absurd c_4 (nI_ge hlt_k (by decide))
          · skip
            refine lv_aload_n hx hb dX7_swapTanks_33 rfl (lv_at hl 1 rfl) ?_
            refine lv_sipush (v := 414) hx hb dX7_swapTanks_34 (by decide) ?_
            refine lv_bipush (v := 32) hx hb dX7_swapTanks_37 (by decide) ?_
            refine lv_iload_n hx hb dX7_swapTanks_39 rfl (lv_at hl 2 rfl) ?_
            refine lv_imul hx hb dX7_swapTanks_40 ?_
            refine lv_iadd hx hb dX7_swapTanks_41 ?_
            refine lv_iload_n hx hb dX7_swapTanks_42 rfl (lv_at hl 0 rfl) ?_
            refine lv_iadd hx hb dX7_swapTanks_43 ?_
            refine lv_sipush (v := 414) hx hb dX7_swapTanks_44 (by decide) ?_
            refine lv_bipush (v := 32) hx hb dX7_swapTanks_47 (by decide) ?_
            refine lv_iload_n hx hb dX7_swapTanks_49 rfl (lv_at hl 3 rfl) ?_
            refine lv_imul hx hb dX7_swapTanks_50 ?_
            refine lv_iadd hx hb dX7_swapTanks_51 ?_
            refine lv_iload_n hx hb dX7_swapTanks_52 rfl (lv_at hl 0 rfl) ?_
            refine lv_iadd hx hb dX7_swapTanks_53 ?_
            refine gV (As := [.int ((414 + (32 * p0)) + (nI k)), .int ((414 + (32 * p1)) + (nI k))]) (rest := []) (wr := []) (ws' := [(m0, .inr (10, [.int 0, .ref m1, .ref m2, .ref m3, .int hf, .int hs, .ref m6, .int len, .int ec, .int ep, .int pos, .int bg, .int bad, .ref m13, .ref m14, .int plc, .int sta, .ref m17, .ref m18, .ref m19, .int shm])), (m1, .inl (G.2.1.1, 670, .inl (f_X7_exchange (it_X7_swapTanks_27 w p0 p1 k) ((414 + (32 * p0)) + (nI k)) ((414 + (32 * p1)) + (nI k)))))]) F (c_X7_exchange l G m0 m1 m2 m3 m6 m13 m14 m17 m18 m19 0 hf hs len ec ep pos bg bad plc sta shm (it_X7_swapTanks_27 w p0 p1 k) ((414 + (32 * p0)) + (nI k)) ((414 + (32 * p1)) + (nI k)) (by have qc_1 := tank_of c_1; have qc_2 := tank_of c_2; have z0 : (414 : Int32).toInt = 414 := (by decide); have z1 : (32 : Int32).toInt = 32 := (by decide); (try have z3 := gI_mul (x := 32) (y := p0) (by (try rw [z1]); (try rw [z2]); omega) (by (try rw [z1]); (try rw [z2]); omega)); (try rw [z1, z2] at z3); (try rw [z1] at z3); (try rw [z2] at z3); (try have z4 := gI_add (x := 414) (y := (32 * p0)) (by omega) (by omega)); have z5 := nI_toInt (n := k) (by omega); (try have z6 := gI_add (x := (414 + (32 * p0))) (y := (nI k)) (by omega) (by omega)); omega) (by have qc_1 := tank_of c_1; have qc_2 := tank_of c_2; have z0 : (414 : Int32).toInt = 414 := (by decide); have z1 : (32 : Int32).toInt = 32 := (by decide); (try have z3 := gI_mul (x := 32) (y := p1) (by (try rw [z1]); (try rw [z2]); omega) (by (try rw [z1]); (try rw [z2]); omega)); (try rw [z1, z2] at z3); (try rw [z1] at z3); (try rw [z2] at z3); (try have z4 := gI_add (x := 414) (y := (32 * p1)) (by omega) (by omega)); have z5 := nI_toInt (n := k) (by omega); (try have z6 := gI_add (x := (414 + (32 * p1))) (y := (nI k)) (by omega) (by omega)); omega)) okV_X7_exchange k_ml_X7_207 rfl rfl ⟨Nat.le_of_ble_eq_true rfl, Nat.le_of_ble_eq_true rfl⟩ hN hK hP hD hS hA [0, 1] [] [0, 1] (by decide) rfl rfl (by decide) (by decide) (by decide) rfl (q0 := 0) rfl rfl rfl rfl hl.1 (Nat.le_of_ble_eq_true rfl) dX7_swapTanks_54 ⟨Nat.le_refl _, Nat.le_refl _⟩ (fun H locs hP hD hS => ?_)
            refine lv_iinc (v := (nI (k + 1))) (lv' := [(3, .int (nI (k + 1))), (0, .ref m0), (1, .int p0), (2, .int p1)]) hx hb dX7_swapTanks_57 hl (k := 0) rfl (nI_1 k) (by decide) rfl (fun ls hl => ?_)
            refine lv_goto (tgt := 27) hx hb dX7_swapTanks_60 (by decide) ?_
            have ek : (it_X7_swapTanks_27 w p0 p1 (k + 1)) = (f_X7_exchange (it_X7_swapTanks_27 w p0 p1 k) ((414 + (32 * p0)) + (nI k)) ((414 + (32 * p1)) + (nI k))) := rfl
            exact ih (k + 1) (by omega) _ _ (by rw [ek]; exact hP) (by rw [ek]; exact hD) hS ls (lv_sub hl [0, 1, 2, 3] rfl)
      exact loop_27 32 0 (by omega) _ _ hP hD hS ls (lv_sub hl [0, 1, 2, 3] rfl)
    · skip
      refine lv_aload_n hx hb dX7_swapTanks_19 rfl (lv_at hl 0 rfl) ?_
      refine lv_iconst (v := 1) hx hb dX7_swapTanks_20 (by decide) ?_
      refine va_put (D := G.1) (ci := 10) (v := .int 1) (ty := .int) (C := RX7) (T := TX7) (N := 21) hx hb hts in_X7 tyX7 tyX7_ok nmX7 hown hK hP hD hS 0 rfl rfl 0 (by decide) (hts _ k_fl_X7_76) (fun _ h9 => h9) rfl (by decide +kernel) rfl rfl (Nat.le_of_ble_eq_true rfl) dX7_swapTanks_21 (fun H locs hP hD hS => ?_)
      replace hP : va_P G.1 vwCl [(m0, .inr (10, [.int 1, .ref m1, .ref m2, .ref m3, .int hf, .int hs, .ref m6, .int len, .int ec, .int ep, .int pos, .int bg, .int bad, .ref m13, .ref m14, .int plc, .int sta, .ref m17, .ref m18, .ref m19, .int shm])), (m1, .inl (G.2.1.1, 670, .inl w))] H := hP
      replace hD : va_D A [(m0, .inr (10, [.int 1, .ref m1, .ref m2, .ref m3, .int hf, .int hs, .ref m6, .int len, .int ec, .int ep, .int pos, .int bg, .int bad, .ref m13, .ref m14, .int plc, .int sta, .ref m17, .ref m18, .ref m19, .int shm])), (m1, .inl (G.2.1.1, 670, .inl w))] := hD
      have ef : (f_X7_swapTanks w p0 p1) = (1, w) := ((if_neg c_1).trans (if_pos c_2))
      exact gRetV F hr hlocks hK hP hD hS rfl (by rw [ef]) (Nat.le_of_ble_eq_true rfl) (Nat.le_of_ble_eq_true rfl) dX7_swapTanks_24
theorem okV_X7_swapTanks : gOkV yX7_swapTanks cX7_swapTanks 4 none 2 := ⟨⟨k_im_X7_swapTanks, k_se_X7_swapTanks, k_in_X7, k_cd_X7_swapTanks⟩, by decide, by decide, by decide +kernel⟩
def f_X7_bitCount (w : Nat → Int32) (p0 : Int32) : Int32 × Int32 :=
  if (f_X7_isTank p0) = 0 then
    ((f_X7_fails 1).1, (f_X7_fails 1).2)
  else
    ((f_X7_bitsOf w p0), 0)
set_option maxRecDepth 100000 in
set_option maxHeartbeats 4000000 in
theorem c_X7_bitCount (l : Launch) (G : gG) (m0 : Nat) (m1 : Nat) (m2 : Nat) (m3 : Nat) (m6 : Nat) (m13 : Nat) (m14 : Nat) (m17 : Nat) (m18 : Nat) (m19 : Nat) (rz : Int32) (hf : Int32) (hs : Int32) (len : Int32) (ec : Int32) (ep : Int32) (pos : Int32) (bg : Int32) (bad : Int32) (plc : Int32) (sta : Int32) (shm : Int32) (w : Nat → Int32) (p0 : Int32) : gM l G yX7_bitCount cX7_bitCount 2 (some .int) { frames := 2, cells := 0, slots := 0, locals := 45 } [.ref m0, .int p0] [(m0, .inr (10, [.int rz, .ref m1, .ref m2, .ref m3, .int hf, .int hs, .ref m6, .int len, .int ec, .int ep, .int pos, .int bg, .int bad, .ref m13, .ref m14, .int plc, .int sta, .ref m17, .ref m18, .ref m19, .int shm])), (m1, .inl (G.2.1.1, 670, .inl w))] (some (.int ((f_X7_bitCount w p0).1))) [(m0, .inr (10, [.int ((f_X7_bitCount w p0).2), .ref m1, .ref m2, .ref m3, .int hf, .int hs, .ref m6, .int len, .int ec, .int ep, .int pos, .int bg, .int bad, .ref m13, .ref m14, .int plc, .int sta, .ref m17, .ref m18, .ref m19, .int shm])), (m1, .inl (G.2.1.1, 670, .inl w))] 0 0 := by
  refine gBegin (by decide +kernel) (Nat.le_of_ble_eq_true rfl) (fun p e s m args below meth c A F hr hlocks hname hN hK hP hD hA hS ls hl => ?_)
  obtain ⟨hx, hb, hml, hown, hts⟩ := id F
  replace hP : va_P G.1 vwCl [(m0, .inr (10, [.int rz, .ref m1, .ref m2, .ref m3, .int hf, .int hs, .ref m6, .int len, .int ec, .int ep, .int pos, .int bg, .int bad, .ref m13, .ref m14, .int plc, .int sta, .ref m17, .ref m18, .ref m19, .int shm])), (m1, .inl (G.2.1.1, 670, .inl w))] s.heap := hP
  replace hl : lv_has ls 2 [(0, .ref m0), (1, .int p0)] := hl
  refine lv_aload_n hx hb dX7_bitCount_0 rfl (lv_at hl 0 rfl) ?_
  refine lv_iconst (v := 0) hx hb dX7_bitCount_1 (by decide) ?_
  refine va_put (D := G.1) (ci := 10) (v := .int 0) (ty := .int) (C := RX7) (T := TX7) (N := 21) hx hb hts in_X7 tyX7 tyX7_ok nmX7 hown hK hP hD hS 0 rfl rfl 0 (by decide) (hts _ k_fl_X7_76) (fun _ h9 => h9) rfl (by decide +kernel) rfl rfl (Nat.le_of_ble_eq_true rfl) dX7_bitCount_2 (fun H locs hP hD hS => ?_)
  replace hP : va_P G.1 vwCl [(m0, .inr (10, [.int 0, .ref m1, .ref m2, .ref m3, .int hf, .int hs, .ref m6, .int len, .int ec, .int ep, .int pos, .int bg, .int bad, .ref m13, .ref m14, .int plc, .int sta, .ref m17, .ref m18, .ref m19, .int shm])), (m1, .inl (G.2.1.1, 670, .inl w))] H := hP
  replace hD : va_D A [(m0, .inr (10, [.int 0, .ref m1, .ref m2, .ref m3, .int hf, .int hs, .ref m6, .int len, .int ec, .int ep, .int pos, .int bg, .int bad, .ref m13, .ref m14, .int plc, .int sta, .ref m17, .ref m18, .ref m19, .int shm])), (m1, .inl (G.2.1.1, 670, .inl w))] := hD
  refine lv_iload_n hx hb dX7_bitCount_5 rfl (lv_at hl 1 rfl) ?_
  refine gS (As := [.int p0]) (rest := []) (wr := [(m0, .inr (10, [.int 0, .ref m1, .ref m2, .ref m3, .int hf, .int hs, .ref m6, .int len, .int ec, .int ep, .int pos, .int bg, .int bad, .ref m13, .ref m14, .int plc, .int sta, .ref m17, .ref m18, .ref m19, .int shm])), (m1, .inl (G.2.1.1, 670, .inl w))]) (ws' := [(m0, .inr (10, [.int 0, .ref m1, .ref m2, .ref m3, .int hf, .int hs, .ref m6, .int len, .int ec, .int ep, .int pos, .int bg, .int bad, .ref m13, .ref m14, .int plc, .int sta, .ref m17, .ref m18, .ref m19, .int shm])), (m1, .inl (G.2.1.1, 670, .inl w))]) F (c_X7_isTank l G p0) okS_X7_isTank k_ml_X7_85 rfl rfl ⟨Nat.le_of_ble_eq_true rfl, Nat.le_of_ble_eq_true rfl⟩ hN hK hP hD hS hA [] [0, 1] [0, 1] (by decide) rfl rfl (by decide) (by decide) (by decide) rfl rfl rfl hl.1 (Nat.le_of_ble_eq_true rfl) dX7_bitCount_6 ⟨Nat.le_refl _, Nat.le_refl _⟩ (fun H locs hP hD hS => ?_)
  refine lv_if_eq (tgt := 20) hx hb dX7_bitCount_9 (by decide) (fun c_1 => ?_) (fun c_1 => ?_)
  · skip
    refine lv_aload_n hx hb dX7_bitCount_20 rfl (lv_at hl 0 rfl) ?_
    refine lv_iconst (v := 1) hx hb dX7_bitCount_21 (by decide) ?_
    refine gV (As := [.int 1]) (rest := []) (wr := [(m1, .inl (G.2.1.1, 670, .inl w))]) (ws' := [(m0, .inr (10, [.int ((f_X7_fails 1).2), .ref m1, .ref m2, .ref m3, .int hf, .int hs, .ref m6, .int len, .int ec, .int ep, .int pos, .int bg, .int bad, .ref m13, .ref m14, .int plc, .int sta, .ref m17, .ref m18, .ref m19, .int shm])), (m1, .inl (G.2.1.1, 670, .inl w))]) F (c_X7_fails l G m0 m1 m2 m3 m6 m13 m14 m17 m18 m19 0 hf hs len ec ep pos bg bad plc sta shm 1) okV_X7_fails k_ml_X7_98 rfl rfl ⟨Nat.le_of_ble_eq_true rfl, Nat.le_of_ble_eq_true rfl⟩ hN hK hP hD hS hA [0] [1] [1, 0] (by decide) rfl rfl (by decide) (by decide) (by decide) rfl (q0 := 0) rfl rfl rfl rfl hl.1 (Nat.le_of_ble_eq_true rfl) dX7_bitCount_22 ⟨Nat.le_refl _, Nat.le_refl _⟩ (fun H locs hP hD hS => ?_)
    have ef : (f_X7_bitCount w p0) = ((f_X7_fails 1).1, (f_X7_fails 1).2) := (if_pos c_1)
    exact gRetI F hr hlocks hK hP hD hS (by rw [ef]) (by rw [ef]) (Nat.le_of_ble_eq_true rfl) (Nat.le_of_ble_eq_true rfl) dX7_bitCount_25
  · skip
    refine lv_aload_n hx hb dX7_bitCount_12 rfl (lv_at hl 0 rfl) ?_
    refine lv_iload_n hx hb dX7_bitCount_13 rfl (lv_at hl 1 rfl) ?_
    refine gV (As := [.int p0]) (rest := []) (wr := []) (ws' := [(m0, .inr (10, [.int 0, .ref m1, .ref m2, .ref m3, .int hf, .int hs, .ref m6, .int len, .int ec, .int ep, .int pos, .int bg, .int bad, .ref m13, .ref m14, .int plc, .int sta, .ref m17, .ref m18, .ref m19, .int shm])), (m1, .inl (G.2.1.1, 670, .inl w))]) F (c_X7_bitsOf l G m0 m1 m2 m3 m6 m13 m14 m17 m18 m19 0 hf hs len ec ep pos bg bad plc sta shm w p0 (by have qc_1 := tank_of c_1; omega)) okV_X7_bitsOf k_ml_X7_204 rfl rfl ⟨Nat.le_of_ble_eq_true rfl, Nat.le_of_ble_eq_true rfl⟩ hN hK hP hD hS hA [0, 1] [] [0, 1] (by decide) rfl rfl (by decide) (by decide) (by decide) rfl (q0 := 0) rfl rfl rfl rfl hl.1 (Nat.le_of_ble_eq_true rfl) dX7_bitCount_14 ⟨Nat.le_refl _, Nat.le_refl _⟩ (fun H locs hP hD hS => ?_)
    refine lv_goto (tgt := 25) hx hb dX7_bitCount_17 (by decide) ?_
    have ef : (f_X7_bitCount w p0) = ((f_X7_bitsOf w p0), 0) := (if_neg c_1)
    exact gRetI F hr hlocks hK hP hD hS (by rw [ef]) (by rw [ef]) (Nat.le_of_ble_eq_true rfl) (Nat.le_of_ble_eq_true rfl) dX7_bitCount_25
theorem okV_X7_bitCount : gOkV yX7_bitCount cX7_bitCount 2 (some .int) 1 := ⟨⟨k_im_X7_bitCount, k_se_X7_bitCount, k_in_X7, k_cd_X7_bitCount⟩, by decide, by decide, by decide +kernel⟩
def f_X7_slips (w : Nat → Int32) (p0 : Int32) : Int32 × Int32 :=
  if (f_X7_isTank p0) = 0 then
    ((f_X7_fails 1).1, (f_X7_fails 1).2)
  else
    ((w (Int32.toNatClampNeg (22 + p0))), 0)
set_option maxRecDepth 100000 in
set_option maxHeartbeats 4000000 in
theorem c_X7_slips (l : Launch) (G : gG) (m0 : Nat) (m1 : Nat) (m2 : Nat) (m3 : Nat) (m6 : Nat) (m13 : Nat) (m14 : Nat) (m17 : Nat) (m18 : Nat) (m19 : Nat) (rz : Int32) (hf : Int32) (hs : Int32) (len : Int32) (ec : Int32) (ep : Int32) (pos : Int32) (bg : Int32) (bad : Int32) (plc : Int32) (sta : Int32) (shm : Int32) (w : Nat → Int32) (p0 : Int32) : gM l G yX7_slips cX7_slips 2 (some .int) { frames := 2, cells := 0, slots := 0, locals := 45 } [.ref m0, .int p0] [(m0, .inr (10, [.int rz, .ref m1, .ref m2, .ref m3, .int hf, .int hs, .ref m6, .int len, .int ec, .int ep, .int pos, .int bg, .int bad, .ref m13, .ref m14, .int plc, .int sta, .ref m17, .ref m18, .ref m19, .int shm])), (m1, .inl (G.2.1.1, 670, .inl w))] (some (.int ((f_X7_slips w p0).1))) [(m0, .inr (10, [.int ((f_X7_slips w p0).2), .ref m1, .ref m2, .ref m3, .int hf, .int hs, .ref m6, .int len, .int ec, .int ep, .int pos, .int bg, .int bad, .ref m13, .ref m14, .int plc, .int sta, .ref m17, .ref m18, .ref m19, .int shm])), (m1, .inl (G.2.1.1, 670, .inl w))] 0 0 := by
  refine gBegin (by decide +kernel) (Nat.le_of_ble_eq_true rfl) (fun p e s m args below meth c A F hr hlocks hname hN hK hP hD hA hS ls hl => ?_)
  obtain ⟨hx, hb, hml, hown, hts⟩ := id F
  replace hP : va_P G.1 vwCl [(m0, .inr (10, [.int rz, .ref m1, .ref m2, .ref m3, .int hf, .int hs, .ref m6, .int len, .int ec, .int ep, .int pos, .int bg, .int bad, .ref m13, .ref m14, .int plc, .int sta, .ref m17, .ref m18, .ref m19, .int shm])), (m1, .inl (G.2.1.1, 670, .inl w))] s.heap := hP
  replace hl : lv_has ls 2 [(0, .ref m0), (1, .int p0)] := hl
  refine lv_aload_n hx hb dX7_slips_0 rfl (lv_at hl 0 rfl) ?_
  refine lv_iconst (v := 0) hx hb dX7_slips_1 (by decide) ?_
  refine va_put (D := G.1) (ci := 10) (v := .int 0) (ty := .int) (C := RX7) (T := TX7) (N := 21) hx hb hts in_X7 tyX7 tyX7_ok nmX7 hown hK hP hD hS 0 rfl rfl 0 (by decide) (hts _ k_fl_X7_76) (fun _ h9 => h9) rfl (by decide +kernel) rfl rfl (Nat.le_of_ble_eq_true rfl) dX7_slips_2 (fun H locs hP hD hS => ?_)
  replace hP : va_P G.1 vwCl [(m0, .inr (10, [.int 0, .ref m1, .ref m2, .ref m3, .int hf, .int hs, .ref m6, .int len, .int ec, .int ep, .int pos, .int bg, .int bad, .ref m13, .ref m14, .int plc, .int sta, .ref m17, .ref m18, .ref m19, .int shm])), (m1, .inl (G.2.1.1, 670, .inl w))] H := hP
  replace hD : va_D A [(m0, .inr (10, [.int 0, .ref m1, .ref m2, .ref m3, .int hf, .int hs, .ref m6, .int len, .int ec, .int ep, .int pos, .int bg, .int bad, .ref m13, .ref m14, .int plc, .int sta, .ref m17, .ref m18, .ref m19, .int shm])), (m1, .inl (G.2.1.1, 670, .inl w))] := hD
  refine lv_iload_n hx hb dX7_slips_5 rfl (lv_at hl 1 rfl) ?_
  refine gS (As := [.int p0]) (rest := []) (wr := [(m0, .inr (10, [.int 0, .ref m1, .ref m2, .ref m3, .int hf, .int hs, .ref m6, .int len, .int ec, .int ep, .int pos, .int bg, .int bad, .ref m13, .ref m14, .int plc, .int sta, .ref m17, .ref m18, .ref m19, .int shm])), (m1, .inl (G.2.1.1, 670, .inl w))]) (ws' := [(m0, .inr (10, [.int 0, .ref m1, .ref m2, .ref m3, .int hf, .int hs, .ref m6, .int len, .int ec, .int ep, .int pos, .int bg, .int bad, .ref m13, .ref m14, .int plc, .int sta, .ref m17, .ref m18, .ref m19, .int shm])), (m1, .inl (G.2.1.1, 670, .inl w))]) F (c_X7_isTank l G p0) okS_X7_isTank k_ml_X7_85 rfl rfl ⟨Nat.le_of_ble_eq_true rfl, Nat.le_of_ble_eq_true rfl⟩ hN hK hP hD hS hA [] [0, 1] [0, 1] (by decide) rfl rfl (by decide) (by decide) (by decide) rfl rfl rfl hl.1 (Nat.le_of_ble_eq_true rfl) dX7_slips_6 ⟨Nat.le_refl _, Nat.le_refl _⟩ (fun H locs hP hD hS => ?_)
  refine lv_if_eq (tgt := 24) hx hb dX7_slips_9 (by decide) (fun c_1 => ?_) (fun c_1 => ?_)
  · skip
    refine lv_aload_n hx hb dX7_slips_24 rfl (lv_at hl 0 rfl) ?_
    refine lv_iconst (v := 1) hx hb dX7_slips_25 (by decide) ?_
    refine gV (As := [.int 1]) (rest := []) (wr := [(m1, .inl (G.2.1.1, 670, .inl w))]) (ws' := [(m0, .inr (10, [.int ((f_X7_fails 1).2), .ref m1, .ref m2, .ref m3, .int hf, .int hs, .ref m6, .int len, .int ec, .int ep, .int pos, .int bg, .int bad, .ref m13, .ref m14, .int plc, .int sta, .ref m17, .ref m18, .ref m19, .int shm])), (m1, .inl (G.2.1.1, 670, .inl w))]) F (c_X7_fails l G m0 m1 m2 m3 m6 m13 m14 m17 m18 m19 0 hf hs len ec ep pos bg bad plc sta shm 1) okV_X7_fails k_ml_X7_98 rfl rfl ⟨Nat.le_of_ble_eq_true rfl, Nat.le_of_ble_eq_true rfl⟩ hN hK hP hD hS hA [0] [1] [1, 0] (by decide) rfl rfl (by decide) (by decide) (by decide) rfl (q0 := 0) rfl rfl rfl rfl hl.1 (Nat.le_of_ble_eq_true rfl) dX7_slips_26 ⟨Nat.le_refl _, Nat.le_refl _⟩ (fun H locs hP hD hS => ?_)
    have ef : (f_X7_slips w p0) = ((f_X7_fails 1).1, (f_X7_fails 1).2) := (if_pos c_1)
    exact gRetI F hr hlocks hK hP hD hS (by rw [ef]) (by rw [ef]) (Nat.le_of_ble_eq_true rfl) (Nat.le_of_ble_eq_true rfl) dX7_slips_29
  · skip
    refine lv_aload_n hx hb dX7_slips_12 rfl (lv_at hl 0 rfl) ?_
    refine va_get (D := G.1) (ci := 10) (v := .ref m1) (C := RX7) (T := TX7) (N := 21) hx hb hts in_X7 hown hK hP 0 rfl rfl 1 (by decide) (hts _ k_fl_X7_7) (fun _ h9 => h9) rfl dX7_slips_13 ?_
    refine lv_bipush (v := 22) hx hb dX7_slips_16 (by decide) ?_
    refine lv_iload_n hx hb dX7_slips_18 rfl (lv_at hl 1 rfl) ?_
    refine lv_iadd hx hb dX7_slips_19 ?_
    refine va_iald hx hb hK hP 1 0 rfl rfl (by have qc_1 := tank_of c_1; have z0 : (22 : Int32).toInt = 22 := (by decide); (try have z2 := gI_add (x := 22) (y := p0) (by omega) (by omega)); (try rw [vp_in_iff]); omega) dX7_slips_20 ?_
    refine lv_goto (tgt := 29) hx hb dX7_slips_21 (by decide) ?_
    have ef : (f_X7_slips w p0) = ((w (Int32.toNatClampNeg (22 + p0))), 0) := (if_neg c_1)
    exact gRetI F hr hlocks hK hP hD hS (by rw [ef]) (by rw [ef]) (Nat.le_of_ble_eq_true rfl) (Nat.le_of_ble_eq_true rfl) dX7_slips_29
theorem okV_X7_slips : gOkV yX7_slips cX7_slips 2 (some .int) 1 := ⟨⟨k_im_X7_slips, k_se_X7_slips, k_in_X7, k_cd_X7_slips⟩, by decide, by decide, by decide +kernel⟩
def f_X7_dropouts (w : Nat → Int32) : Int32 × Int32 :=
  ((w 7), 0)
set_option maxRecDepth 100000 in
set_option maxHeartbeats 4000000 in
theorem c_X7_dropouts (l : Launch) (G : gG) (m0 : Nat) (m1 : Nat) (m2 : Nat) (m3 : Nat) (m6 : Nat) (m13 : Nat) (m14 : Nat) (m17 : Nat) (m18 : Nat) (m19 : Nat) (rz : Int32) (hf : Int32) (hs : Int32) (len : Int32) (ec : Int32) (ep : Int32) (pos : Int32) (bg : Int32) (bad : Int32) (plc : Int32) (sta : Int32) (shm : Int32) (w : Nat → Int32) : gM l G yX7_dropouts cX7_dropouts 1 (some .int) { frames := 0, cells := 0, slots := 0, locals := 0 } [.ref m0] [(m0, .inr (10, [.int rz, .ref m1, .ref m2, .ref m3, .int hf, .int hs, .ref m6, .int len, .int ec, .int ep, .int pos, .int bg, .int bad, .ref m13, .ref m14, .int plc, .int sta, .ref m17, .ref m18, .ref m19, .int shm])), (m1, .inl (G.2.1.1, 670, .inl w))] (some (.int ((f_X7_dropouts w).1))) [(m0, .inr (10, [.int ((f_X7_dropouts w).2), .ref m1, .ref m2, .ref m3, .int hf, .int hs, .ref m6, .int len, .int ec, .int ep, .int pos, .int bg, .int bad, .ref m13, .ref m14, .int plc, .int sta, .ref m17, .ref m18, .ref m19, .int shm])), (m1, .inl (G.2.1.1, 670, .inl w))] 0 0 := by
  refine gBegin (by decide +kernel) (Nat.le_of_ble_eq_true rfl) (fun p e s m args below meth c A F hr hlocks hname hN hK hP hD hA hS ls hl => ?_)
  obtain ⟨hx, hb, hml, hown, hts⟩ := id F
  replace hP : va_P G.1 vwCl [(m0, .inr (10, [.int rz, .ref m1, .ref m2, .ref m3, .int hf, .int hs, .ref m6, .int len, .int ec, .int ep, .int pos, .int bg, .int bad, .ref m13, .ref m14, .int plc, .int sta, .ref m17, .ref m18, .ref m19, .int shm])), (m1, .inl (G.2.1.1, 670, .inl w))] s.heap := hP
  replace hl : lv_has ls 1 [(0, .ref m0)] := hl
  refine lv_aload_n hx hb dX7_dropouts_0 rfl (lv_at hl 0 rfl) ?_
  refine lv_iconst (v := 0) hx hb dX7_dropouts_1 (by decide) ?_
  refine va_put (D := G.1) (ci := 10) (v := .int 0) (ty := .int) (C := RX7) (T := TX7) (N := 21) hx hb hts in_X7 tyX7 tyX7_ok nmX7 hown hK hP hD hS 0 rfl rfl 0 (by decide) (hts _ k_fl_X7_76) (fun _ h9 => h9) rfl (by decide +kernel) rfl rfl (Nat.le_of_ble_eq_true rfl) dX7_dropouts_2 (fun H locs hP hD hS => ?_)
  replace hP : va_P G.1 vwCl [(m0, .inr (10, [.int 0, .ref m1, .ref m2, .ref m3, .int hf, .int hs, .ref m6, .int len, .int ec, .int ep, .int pos, .int bg, .int bad, .ref m13, .ref m14, .int plc, .int sta, .ref m17, .ref m18, .ref m19, .int shm])), (m1, .inl (G.2.1.1, 670, .inl w))] H := hP
  replace hD : va_D A [(m0, .inr (10, [.int 0, .ref m1, .ref m2, .ref m3, .int hf, .int hs, .ref m6, .int len, .int ec, .int ep, .int pos, .int bg, .int bad, .ref m13, .ref m14, .int plc, .int sta, .ref m17, .ref m18, .ref m19, .int shm])), (m1, .inl (G.2.1.1, 670, .inl w))] := hD
  refine lv_aload_n hx hb dX7_dropouts_5 rfl (lv_at hl 0 rfl) ?_
  refine va_get (D := G.1) (ci := 10) (v := .ref m1) (C := RX7) (T := TX7) (N := 21) hx hb hts in_X7 hown hK hP 0 rfl rfl 1 (by decide) (hts _ k_fl_X7_7) (fun _ h9 => h9) rfl dX7_dropouts_6 ?_
  refine lv_bipush (v := 7) hx hb dX7_dropouts_9 (by decide) ?_
  refine gIald (k := 7) hx hb hK hP 1 0 rfl rfl (by decide) (gInL (by decide)) dX7_dropouts_11 ?_
  exact gRetI F hr hlocks hK hP hD hS rfl rfl (Nat.le_of_ble_eq_true rfl) (Nat.le_of_ble_eq_true rfl) dX7_dropouts_12
theorem okV_X7_dropouts : gOkV yX7_dropouts cX7_dropouts 1 (some .int) 0 := ⟨⟨k_im_X7_dropouts, k_se_X7_dropouts, k_in_X7, k_cd_X7_dropouts⟩, by decide, by decide, by decide +kernel⟩
def f_X7_isWarmth (p0 : Int32) : Int32 :=
  (f_X7_in (Int32.toInt64 p0) 0 1000)
set_option maxRecDepth 100000 in
set_option maxHeartbeats 4000000 in
theorem c_X7_isWarmth (l : Launch) (G : gG) (p0 : Int32) : gM l G yX7_isWarmth cX7_isWarmth 1 (some .boolean) { frames := 1, cells := 0, slots := 0, locals := 25 } [.int p0] [] (some (.int (f_X7_isWarmth p0))) [] 0 0 := by
  refine gBegin (by decide +kernel) (Nat.le_of_ble_eq_true rfl) (fun p e s m args below meth c A F hr hlocks hname hN hK hP hD hA hS ls hl => ?_)
  obtain ⟨hx, hb, hml, hown, hts⟩ := id F
  replace hP : va_P G.1 vwCl [] s.heap := hP
  replace hl : lv_has ls 1 [(0, .int p0)] := hl
  refine lv_iload_n hx hb dX7_isWarmth_0 rfl (lv_at hl 0 rfl) ?_
  refine lv_i2l (v := (Int32.toInt64 p0)) hx hb dX7_isWarmth_1 rfl ?_
  refine lv_lconst (v := 0) hx hb dX7_isWarmth_2 (by decide) ?_
  refine lv_ldc2 (v := 1000) hx hb hown (hts _ k_lc_X7_210) dX7_isWarmth_3 ?_
  refine gS (As := [.long (Int32.toInt64 p0), .long 0, .long 1000]) (rest := []) (wr := []) (ws' := []) F (c_X7_in l G (Int32.toInt64 p0) 0 1000) okS_X7_in k_ml_X7_81 rfl rfl ⟨Nat.le_of_ble_eq_true rfl, Nat.le_of_ble_eq_true rfl⟩ hN hK hP hD hS hA [] [] [] (by decide) rfl rfl (by decide) (by decide) (by decide) rfl rfl rfl hl.1 (Nat.le_of_ble_eq_true rfl) dX7_isWarmth_6 ⟨Nat.le_refl _, Nat.le_refl _⟩ (fun H locs hP hD hS => ?_)
  exact gRetZ F hr hlocks hK hP hD hS (gNz (in_01 _ _ _)) rfl rfl (Nat.le_of_ble_eq_true rfl) (Nat.le_of_ble_eq_true rfl) dX7_isWarmth_9
theorem okS_X7_isWarmth : gOkS yX7_isWarmth cX7_isWarmth 1 (some .boolean) 1 := ⟨⟨k_st_X7_isWarmth, k_in_X7, k_cd_X7_isWarmth⟩, by decide, by decide, by decide +kernel⟩
def f_X7_puts (w : Nat → Int32) (p0 : Int32) (p1 : Int32) : Int32 × (Nat → Int32) :=
  ((w (Int32.toNatClampNeg p0)), (upd w (Int32.toNatClampNeg p0) p1))
set_option maxRecDepth 100000 in
set_option maxHeartbeats 4000000 in
theorem c_X7_puts (l : Launch) (G : gG) (m0 : Nat) (m1 : Nat) (m2 : Nat) (m3 : Nat) (m6 : Nat) (m13 : Nat) (m14 : Nat) (m17 : Nat) (m18 : Nat) (m19 : Nat) (rz : Int32) (hf : Int32) (hs : Int32) (len : Int32) (ec : Int32) (ep : Int32) (pos : Int32) (bg : Int32) (bad : Int32) (plc : Int32) (sta : Int32) (shm : Int32) (w : Nat → Int32) (p0 : Int32) (p1 : Int32) (h0 : 0 ≤ p0.toInt ∧ p0.toInt < 670) : gM l G yX7_puts cX7_puts 4 (some .int) { frames := 0, cells := 0, slots := 0, locals := 0 } [.ref m0, .int p0, .int p1] [(m0, .inr (10, [.int rz, .ref m1, .ref m2, .ref m3, .int hf, .int hs, .ref m6, .int len, .int ec, .int ep, .int pos, .int bg, .int bad, .ref m13, .ref m14, .int plc, .int sta, .ref m17, .ref m18, .ref m19, .int shm])), (m1, .inl (G.2.1.1, 670, .inl w))] (some (.int ((f_X7_puts w p0 p1).1))) [(m0, .inr (10, [.int rz, .ref m1, .ref m2, .ref m3, .int hf, .int hs, .ref m6, .int len, .int ec, .int ep, .int pos, .int bg, .int bad, .ref m13, .ref m14, .int plc, .int sta, .ref m17, .ref m18, .ref m19, .int shm])), (m1, .inl (G.2.1.1, 670, .inl ((f_X7_puts w p0 p1).2)))] 0 0 := by
  refine gBegin (by decide +kernel) (Nat.le_of_ble_eq_true rfl) (fun p e s m args below meth c A F hr hlocks hname hN hK hP hD hA hS ls hl => ?_)
  obtain ⟨hx, hb, hml, hown, hts⟩ := id F
  replace hP : va_P G.1 vwCl [(m0, .inr (10, [.int rz, .ref m1, .ref m2, .ref m3, .int hf, .int hs, .ref m6, .int len, .int ec, .int ep, .int pos, .int bg, .int bad, .ref m13, .ref m14, .int plc, .int sta, .ref m17, .ref m18, .ref m19, .int shm])), (m1, .inl (G.2.1.1, 670, .inl w))] s.heap := hP
  replace hl : lv_has ls 4 [(0, .ref m0), (1, .int p0), (2, .int p1)] := hl
  refine lv_aload_n hx hb dX7_puts_0 rfl (lv_at hl 0 rfl) ?_
  refine va_get (D := G.1) (ci := 10) (v := .ref m1) (C := RX7) (T := TX7) (N := 21) hx hb hts in_X7 hown hK hP 0 rfl rfl 1 (by decide) (hts _ k_fl_X7_7) (fun _ h9 => h9) rfl dX7_puts_1 ?_
  refine lv_iload_n hx hb dX7_puts_4 rfl (lv_at hl 1 rfl) ?_
  refine va_iald hx hb hK hP 1 0 rfl rfl (by (try rw [vp_in_iff]); omega) dX7_puts_5 ?_
  refine lv_istore_n (lv' := [(3, .int (w (Int32.toNatClampNeg p0))), (0, .ref m0), (1, .int p0), (2, .int p1)]) hx hb dX7_puts_6 rfl hl (by decide) rfl (fun ls hl => ?_)
  refine lv_aload_n hx hb dX7_puts_7 rfl (lv_at hl 1 rfl) ?_
  refine va_get (D := G.1) (ci := 10) (v := .ref m1) (C := RX7) (T := TX7) (N := 21) hx hb hts in_X7 hown hK hP 0 rfl rfl 1 (by decide) (hts _ k_fl_X7_7) (fun _ h9 => h9) rfl dX7_puts_8 ?_
  refine lv_iload_n hx hb dX7_puts_11 rfl (lv_at hl 2 rfl) ?_
  refine lv_iload_n hx hb dX7_puts_12 rfl (lv_at hl 3 rfl) ?_
  refine va_iast hx hb hK hP hD hS 1 0 rfl rfl (by (try rw [vp_in_iff]); omega) dX7_puts_13 (fun H locs hP hD hS => ?_)
  replace hP : va_P G.1 vwCl [(m0, .inr (10, [.int rz, .ref m1, .ref m2, .ref m3, .int hf, .int hs, .ref m6, .int len, .int ec, .int ep, .int pos, .int bg, .int bad, .ref m13, .ref m14, .int plc, .int sta, .ref m17, .ref m18, .ref m19, .int shm])), (m1, .inl (G.2.1.1, 670, .inl (upd w (Int32.toNatClampNeg p0) p1)))] H := hP
  replace hD : va_D A [(m0, .inr (10, [.int rz, .ref m1, .ref m2, .ref m3, .int hf, .int hs, .ref m6, .int len, .int ec, .int ep, .int pos, .int bg, .int bad, .ref m13, .ref m14, .int plc, .int sta, .ref m17, .ref m18, .ref m19, .int shm])), (m1, .inl (G.2.1.1, 670, .inl (upd w (Int32.toNatClampNeg p0) p1)))] := hD
  refine lv_iload_n hx hb dX7_puts_14 rfl (lv_at hl 0 rfl) ?_
  exact gRetI F hr hlocks hK hP hD hS rfl rfl (Nat.le_of_ble_eq_true rfl) (Nat.le_of_ble_eq_true rfl) dX7_puts_15
theorem okV_X7_puts : gOkV yX7_puts cX7_puts 4 (some .int) 2 := ⟨⟨k_im_X7_puts, k_se_X7_puts, k_in_X7, k_cd_X7_puts⟩, by decide, by decide, by decide +kernel⟩
def f_X7_setTemperature (w : Nat → Int32) (p0 : Int32) (p1 : Int32) : Int32 × Int32 × (Nat → Int32) :=
  if (f_X7_isTank p0) = 0 then
    ((f_X7_fails 1).1, (f_X7_fails 1).2, w)
  else
    if (f_X7_isWarmth p1) = 0 then
      ((f_X7_fails 2).1, (f_X7_fails 2).2, w)
    else
      ((f_X7_puts w (14 + p0) p1).1, 0, (f_X7_puts w (14 + p0) p1).2)
set_option maxRecDepth 100000 in
set_option maxHeartbeats 4000000 in
theorem c_X7_setTemperature (l : Launch) (G : gG) (m0 : Nat) (m1 : Nat) (m2 : Nat) (m3 : Nat) (m6 : Nat) (m13 : Nat) (m14 : Nat) (m17 : Nat) (m18 : Nat) (m19 : Nat) (rz : Int32) (hf : Int32) (hs : Int32) (len : Int32) (ec : Int32) (ep : Int32) (pos : Int32) (bg : Int32) (bad : Int32) (plc : Int32) (sta : Int32) (shm : Int32) (w : Nat → Int32) (p0 : Int32) (p1 : Int32) : gM l G yX7_setTemperature cX7_setTemperature 3 (some .int) { frames := 2, cells := 0, slots := 0, locals := 45 } [.ref m0, .int p0, .int p1] [(m0, .inr (10, [.int rz, .ref m1, .ref m2, .ref m3, .int hf, .int hs, .ref m6, .int len, .int ec, .int ep, .int pos, .int bg, .int bad, .ref m13, .ref m14, .int plc, .int sta, .ref m17, .ref m18, .ref m19, .int shm])), (m1, .inl (G.2.1.1, 670, .inl w))] (some (.int ((f_X7_setTemperature w p0 p1).1))) [(m0, .inr (10, [.int ((f_X7_setTemperature w p0 p1).2.1), .ref m1, .ref m2, .ref m3, .int hf, .int hs, .ref m6, .int len, .int ec, .int ep, .int pos, .int bg, .int bad, .ref m13, .ref m14, .int plc, .int sta, .ref m17, .ref m18, .ref m19, .int shm])), (m1, .inl (G.2.1.1, 670, .inl ((f_X7_setTemperature w p0 p1).2.2)))] 0 0 := by
  refine gBegin (by decide +kernel) (Nat.le_of_ble_eq_true rfl) (fun p e s m args below meth c A F hr hlocks hname hN hK hP hD hA hS ls hl => ?_)
  obtain ⟨hx, hb, hml, hown, hts⟩ := id F
  replace hP : va_P G.1 vwCl [(m0, .inr (10, [.int rz, .ref m1, .ref m2, .ref m3, .int hf, .int hs, .ref m6, .int len, .int ec, .int ep, .int pos, .int bg, .int bad, .ref m13, .ref m14, .int plc, .int sta, .ref m17, .ref m18, .ref m19, .int shm])), (m1, .inl (G.2.1.1, 670, .inl w))] s.heap := hP
  replace hl : lv_has ls 3 [(0, .ref m0), (1, .int p0), (2, .int p1)] := hl
  refine lv_aload_n hx hb dX7_setTemperature_0 rfl (lv_at hl 0 rfl) ?_
  refine lv_iconst (v := 0) hx hb dX7_setTemperature_1 (by decide) ?_
  refine va_put (D := G.1) (ci := 10) (v := .int 0) (ty := .int) (C := RX7) (T := TX7) (N := 21) hx hb hts in_X7 tyX7 tyX7_ok nmX7 hown hK hP hD hS 0 rfl rfl 0 (by decide) (hts _ k_fl_X7_76) (fun _ h9 => h9) rfl (by decide +kernel) rfl rfl (Nat.le_of_ble_eq_true rfl) dX7_setTemperature_2 (fun H locs hP hD hS => ?_)
  replace hP : va_P G.1 vwCl [(m0, .inr (10, [.int 0, .ref m1, .ref m2, .ref m3, .int hf, .int hs, .ref m6, .int len, .int ec, .int ep, .int pos, .int bg, .int bad, .ref m13, .ref m14, .int plc, .int sta, .ref m17, .ref m18, .ref m19, .int shm])), (m1, .inl (G.2.1.1, 670, .inl w))] H := hP
  replace hD : va_D A [(m0, .inr (10, [.int 0, .ref m1, .ref m2, .ref m3, .int hf, .int hs, .ref m6, .int len, .int ec, .int ep, .int pos, .int bg, .int bad, .ref m13, .ref m14, .int plc, .int sta, .ref m17, .ref m18, .ref m19, .int shm])), (m1, .inl (G.2.1.1, 670, .inl w))] := hD
  refine lv_iload_n hx hb dX7_setTemperature_5 rfl (lv_at hl 1 rfl) ?_
  refine gS (As := [.int p0]) (rest := []) (wr := [(m0, .inr (10, [.int 0, .ref m1, .ref m2, .ref m3, .int hf, .int hs, .ref m6, .int len, .int ec, .int ep, .int pos, .int bg, .int bad, .ref m13, .ref m14, .int plc, .int sta, .ref m17, .ref m18, .ref m19, .int shm])), (m1, .inl (G.2.1.1, 670, .inl w))]) (ws' := [(m0, .inr (10, [.int 0, .ref m1, .ref m2, .ref m3, .int hf, .int hs, .ref m6, .int len, .int ec, .int ep, .int pos, .int bg, .int bad, .ref m13, .ref m14, .int plc, .int sta, .ref m17, .ref m18, .ref m19, .int shm])), (m1, .inl (G.2.1.1, 670, .inl w))]) F (c_X7_isTank l G p0) okS_X7_isTank k_ml_X7_85 rfl rfl ⟨Nat.le_of_ble_eq_true rfl, Nat.le_of_ble_eq_true rfl⟩ hN hK hP hD hS hA [] [0, 1] [0, 1] (by decide) rfl rfl (by decide) (by decide) (by decide) rfl rfl rfl hl.1 (Nat.le_of_ble_eq_true rfl) dX7_setTemperature_6 ⟨Nat.le_refl _, Nat.le_refl _⟩ (fun H locs hP hD hS => ?_)
  refine lv_if_ne (tgt := 18) hx hb dX7_setTemperature_9 (by decide) (fun c_1 => ?_) (fun c_1 => ?_)
  · skip
    refine lv_iload_n hx hb dX7_setTemperature_18 rfl (lv_at hl 2 rfl) ?_
    refine gS (As := [.int p1]) (rest := []) (wr := [(m0, .inr (10, [.int 0, .ref m1, .ref m2, .ref m3, .int hf, .int hs, .ref m6, .int len, .int ec, .int ep, .int pos, .int bg, .int bad, .ref m13, .ref m14, .int plc, .int sta, .ref m17, .ref m18, .ref m19, .int shm])), (m1, .inl (G.2.1.1, 670, .inl w))]) (ws' := [(m0, .inr (10, [.int 0, .ref m1, .ref m2, .ref m3, .int hf, .int hs, .ref m6, .int len, .int ec, .int ep, .int pos, .int bg, .int bad, .ref m13, .ref m14, .int plc, .int sta, .ref m17, .ref m18, .ref m19, .int shm])), (m1, .inl (G.2.1.1, 670, .inl w))]) F (c_X7_isWarmth l G p1) okS_X7_isWarmth k_ml_X7_212 rfl rfl ⟨Nat.le_of_ble_eq_true rfl, Nat.le_of_ble_eq_true rfl⟩ hN hK hP hD hS hA [] [0, 1] [0, 1] (by decide) rfl rfl (by decide) (by decide) (by decide) rfl rfl rfl hl.1 (Nat.le_of_ble_eq_true rfl) dX7_setTemperature_19 ⟨Nat.le_refl _, Nat.le_refl _⟩ (fun H locs hP hD hS => ?_)
    refine lv_if_eq (tgt := 37) hx hb dX7_setTemperature_22 (by decide) (fun c_2 => ?_) (fun c_2 => ?_)
    · skip
      refine lv_aload_n hx hb dX7_setTemperature_37 rfl (lv_at hl 0 rfl) ?_
      refine lv_iconst (v := 2) hx hb dX7_setTemperature_38 (by decide) ?_
      refine gV (As := [.int 2]) (rest := []) (wr := [(m1, .inl (G.2.1.1, 670, .inl w))]) (ws' := [(m0, .inr (10, [.int ((f_X7_fails 2).2), .ref m1, .ref m2, .ref m3, .int hf, .int hs, .ref m6, .int len, .int ec, .int ep, .int pos, .int bg, .int bad, .ref m13, .ref m14, .int plc, .int sta, .ref m17, .ref m18, .ref m19, .int shm])), (m1, .inl (G.2.1.1, 670, .inl w))]) F (c_X7_fails l G m0 m1 m2 m3 m6 m13 m14 m17 m18 m19 0 hf hs len ec ep pos bg bad plc sta shm 2) okV_X7_fails k_ml_X7_98 rfl rfl ⟨Nat.le_of_ble_eq_true rfl, Nat.le_of_ble_eq_true rfl⟩ hN hK hP hD hS hA [0] [1] [1, 0] (by decide) rfl rfl (by decide) (by decide) (by decide) rfl (q0 := 0) rfl rfl rfl rfl hl.1 (Nat.le_of_ble_eq_true rfl) dX7_setTemperature_39 ⟨Nat.le_refl _, Nat.le_refl _⟩ (fun H locs hP hD hS => ?_)
      have ef : (f_X7_setTemperature w p0 p1) = ((f_X7_fails 2).1, (f_X7_fails 2).2, w) := ((if_neg c_1).trans (if_pos c_2))
      exact gRetI F hr hlocks hK hP hD hS (by rw [ef]) (by rw [ef]) (Nat.le_of_ble_eq_true rfl) (Nat.le_of_ble_eq_true rfl) dX7_setTemperature_42
    · skip
      refine lv_aload_n hx hb dX7_setTemperature_25 rfl (lv_at hl 0 rfl) ?_
      refine lv_bipush (v := 14) hx hb dX7_setTemperature_26 (by decide) ?_
      refine lv_iload_n hx hb dX7_setTemperature_28 rfl (lv_at hl 1 rfl) ?_
      refine lv_iadd hx hb dX7_setTemperature_29 ?_
      refine lv_iload_n hx hb dX7_setTemperature_30 rfl (lv_at hl 2 rfl) ?_
      refine gV (As := [.int (14 + p0), .int p1]) (rest := []) (wr := []) (ws' := [(m0, .inr (10, [.int 0, .ref m1, .ref m2, .ref m3, .int hf, .int hs, .ref m6, .int len, .int ec, .int ep, .int pos, .int bg, .int bad, .ref m13, .ref m14, .int plc, .int sta, .ref m17, .ref m18, .ref m19, .int shm])), (m1, .inl (G.2.1.1, 670, .inl ((f_X7_puts w (14 + p0) p1).2)))]) F (c_X7_puts l G m0 m1 m2 m3 m6 m13 m14 m17 m18 m19 0 hf hs len ec ep pos bg bad plc sta shm w (14 + p0) p1 (by have qc_1 := tank_of c_1; have z0 : (14 : Int32).toInt = 14 := (by decide); (try have z2 := gI_add (x := 14) (y := p0) (by omega) (by omega)); omega)) okV_X7_puts k_ml_X7_215 rfl rfl ⟨Nat.le_of_ble_eq_true rfl, Nat.le_of_ble_eq_true rfl⟩ hN hK hP hD hS hA [0, 1] [] [0, 1] (by decide) rfl rfl (by decide) (by decide) (by decide) rfl (q0 := 0) rfl rfl rfl rfl hl.1 (Nat.le_of_ble_eq_true rfl) dX7_setTemperature_31 ⟨Nat.le_refl _, Nat.le_refl _⟩ (fun H locs hP hD hS => ?_)
      refine lv_goto (tgt := 42) hx hb dX7_setTemperature_34 (by decide) ?_
      have ef : (f_X7_setTemperature w p0 p1) = ((f_X7_puts w (14 + p0) p1).1, 0, (f_X7_puts w (14 + p0) p1).2) := ((if_neg c_1).trans (if_neg c_2))
      exact gRetI F hr hlocks hK hP hD hS (by rw [ef]) (by rw [ef]) (Nat.le_of_ble_eq_true rfl) (Nat.le_of_ble_eq_true rfl) dX7_setTemperature_42
  · skip
    refine lv_aload_n hx hb dX7_setTemperature_12 rfl (lv_at hl 0 rfl) ?_
    refine lv_iconst (v := 1) hx hb dX7_setTemperature_13 (by decide) ?_
    refine gV (As := [.int 1]) (rest := []) (wr := [(m1, .inl (G.2.1.1, 670, .inl w))]) (ws' := [(m0, .inr (10, [.int ((f_X7_fails 1).2), .ref m1, .ref m2, .ref m3, .int hf, .int hs, .ref m6, .int len, .int ec, .int ep, .int pos, .int bg, .int bad, .ref m13, .ref m14, .int plc, .int sta, .ref m17, .ref m18, .ref m19, .int shm])), (m1, .inl (G.2.1.1, 670, .inl w))]) F (c_X7_fails l G m0 m1 m2 m3 m6 m13 m14 m17 m18 m19 0 hf hs len ec ep pos bg bad plc sta shm 1) okV_X7_fails k_ml_X7_98 rfl rfl ⟨Nat.le_of_ble_eq_true rfl, Nat.le_of_ble_eq_true rfl⟩ hN hK hP hD hS hA [0] [1] [1, 0] (by decide) rfl rfl (by decide) (by decide) (by decide) rfl (q0 := 0) rfl rfl rfl rfl hl.1 (Nat.le_of_ble_eq_true rfl) dX7_setTemperature_14 ⟨Nat.le_refl _, Nat.le_refl _⟩ (fun H locs hP hD hS => ?_)
    have ef : (f_X7_setTemperature w p0 p1) = ((f_X7_fails 1).1, (f_X7_fails 1).2, w) := (if_pos c_1)
    exact gRetI F hr hlocks hK hP hD hS (by rw [ef]) (by rw [ef]) (Nat.le_of_ble_eq_true rfl) (Nat.le_of_ble_eq_true rfl) dX7_setTemperature_17
theorem okV_X7_setTemperature : gOkV yX7_setTemperature cX7_setTemperature 3 (some .int) 2 := ⟨⟨k_im_X7_setTemperature, k_se_X7_setTemperature, k_in_X7, k_cd_X7_setTemperature⟩, by decide, by decide, by decide +kernel⟩
def f_X7_temperature (w : Nat → Int32) (p0 : Int32) : Int32 × Int32 :=
  if (f_X7_isTank p0) = 0 then
    ((f_X7_fails 1).1, (f_X7_fails 1).2)
  else
    ((w (Int32.toNatClampNeg (14 + p0))), 0)
set_option maxRecDepth 100000 in
set_option maxHeartbeats 4000000 in
theorem c_X7_temperature (l : Launch) (G : gG) (m0 : Nat) (m1 : Nat) (m2 : Nat) (m3 : Nat) (m6 : Nat) (m13 : Nat) (m14 : Nat) (m17 : Nat) (m18 : Nat) (m19 : Nat) (rz : Int32) (hf : Int32) (hs : Int32) (len : Int32) (ec : Int32) (ep : Int32) (pos : Int32) (bg : Int32) (bad : Int32) (plc : Int32) (sta : Int32) (shm : Int32) (w : Nat → Int32) (p0 : Int32) : gM l G yX7_temperature cX7_temperature 2 (some .int) { frames := 2, cells := 0, slots := 0, locals := 45 } [.ref m0, .int p0] [(m0, .inr (10, [.int rz, .ref m1, .ref m2, .ref m3, .int hf, .int hs, .ref m6, .int len, .int ec, .int ep, .int pos, .int bg, .int bad, .ref m13, .ref m14, .int plc, .int sta, .ref m17, .ref m18, .ref m19, .int shm])), (m1, .inl (G.2.1.1, 670, .inl w))] (some (.int ((f_X7_temperature w p0).1))) [(m0, .inr (10, [.int ((f_X7_temperature w p0).2), .ref m1, .ref m2, .ref m3, .int hf, .int hs, .ref m6, .int len, .int ec, .int ep, .int pos, .int bg, .int bad, .ref m13, .ref m14, .int plc, .int sta, .ref m17, .ref m18, .ref m19, .int shm])), (m1, .inl (G.2.1.1, 670, .inl w))] 0 0 := by
  refine gBegin (by decide +kernel) (Nat.le_of_ble_eq_true rfl) (fun p e s m args below meth c A F hr hlocks hname hN hK hP hD hA hS ls hl => ?_)
  obtain ⟨hx, hb, hml, hown, hts⟩ := id F
  replace hP : va_P G.1 vwCl [(m0, .inr (10, [.int rz, .ref m1, .ref m2, .ref m3, .int hf, .int hs, .ref m6, .int len, .int ec, .int ep, .int pos, .int bg, .int bad, .ref m13, .ref m14, .int plc, .int sta, .ref m17, .ref m18, .ref m19, .int shm])), (m1, .inl (G.2.1.1, 670, .inl w))] s.heap := hP
  replace hl : lv_has ls 2 [(0, .ref m0), (1, .int p0)] := hl
  refine lv_aload_n hx hb dX7_temperature_0 rfl (lv_at hl 0 rfl) ?_
  refine lv_iconst (v := 0) hx hb dX7_temperature_1 (by decide) ?_
  refine va_put (D := G.1) (ci := 10) (v := .int 0) (ty := .int) (C := RX7) (T := TX7) (N := 21) hx hb hts in_X7 tyX7 tyX7_ok nmX7 hown hK hP hD hS 0 rfl rfl 0 (by decide) (hts _ k_fl_X7_76) (fun _ h9 => h9) rfl (by decide +kernel) rfl rfl (Nat.le_of_ble_eq_true rfl) dX7_temperature_2 (fun H locs hP hD hS => ?_)
  replace hP : va_P G.1 vwCl [(m0, .inr (10, [.int 0, .ref m1, .ref m2, .ref m3, .int hf, .int hs, .ref m6, .int len, .int ec, .int ep, .int pos, .int bg, .int bad, .ref m13, .ref m14, .int plc, .int sta, .ref m17, .ref m18, .ref m19, .int shm])), (m1, .inl (G.2.1.1, 670, .inl w))] H := hP
  replace hD : va_D A [(m0, .inr (10, [.int 0, .ref m1, .ref m2, .ref m3, .int hf, .int hs, .ref m6, .int len, .int ec, .int ep, .int pos, .int bg, .int bad, .ref m13, .ref m14, .int plc, .int sta, .ref m17, .ref m18, .ref m19, .int shm])), (m1, .inl (G.2.1.1, 670, .inl w))] := hD
  refine lv_iload_n hx hb dX7_temperature_5 rfl (lv_at hl 1 rfl) ?_
  refine gS (As := [.int p0]) (rest := []) (wr := [(m0, .inr (10, [.int 0, .ref m1, .ref m2, .ref m3, .int hf, .int hs, .ref m6, .int len, .int ec, .int ep, .int pos, .int bg, .int bad, .ref m13, .ref m14, .int plc, .int sta, .ref m17, .ref m18, .ref m19, .int shm])), (m1, .inl (G.2.1.1, 670, .inl w))]) (ws' := [(m0, .inr (10, [.int 0, .ref m1, .ref m2, .ref m3, .int hf, .int hs, .ref m6, .int len, .int ec, .int ep, .int pos, .int bg, .int bad, .ref m13, .ref m14, .int plc, .int sta, .ref m17, .ref m18, .ref m19, .int shm])), (m1, .inl (G.2.1.1, 670, .inl w))]) F (c_X7_isTank l G p0) okS_X7_isTank k_ml_X7_85 rfl rfl ⟨Nat.le_of_ble_eq_true rfl, Nat.le_of_ble_eq_true rfl⟩ hN hK hP hD hS hA [] [0, 1] [0, 1] (by decide) rfl rfl (by decide) (by decide) (by decide) rfl rfl rfl hl.1 (Nat.le_of_ble_eq_true rfl) dX7_temperature_6 ⟨Nat.le_refl _, Nat.le_refl _⟩ (fun H locs hP hD hS => ?_)
  refine lv_if_eq (tgt := 24) hx hb dX7_temperature_9 (by decide) (fun c_1 => ?_) (fun c_1 => ?_)
  · skip
    refine lv_aload_n hx hb dX7_temperature_24 rfl (lv_at hl 0 rfl) ?_
    refine lv_iconst (v := 1) hx hb dX7_temperature_25 (by decide) ?_
    refine gV (As := [.int 1]) (rest := []) (wr := [(m1, .inl (G.2.1.1, 670, .inl w))]) (ws' := [(m0, .inr (10, [.int ((f_X7_fails 1).2), .ref m1, .ref m2, .ref m3, .int hf, .int hs, .ref m6, .int len, .int ec, .int ep, .int pos, .int bg, .int bad, .ref m13, .ref m14, .int plc, .int sta, .ref m17, .ref m18, .ref m19, .int shm])), (m1, .inl (G.2.1.1, 670, .inl w))]) F (c_X7_fails l G m0 m1 m2 m3 m6 m13 m14 m17 m18 m19 0 hf hs len ec ep pos bg bad plc sta shm 1) okV_X7_fails k_ml_X7_98 rfl rfl ⟨Nat.le_of_ble_eq_true rfl, Nat.le_of_ble_eq_true rfl⟩ hN hK hP hD hS hA [0] [1] [1, 0] (by decide) rfl rfl (by decide) (by decide) (by decide) rfl (q0 := 0) rfl rfl rfl rfl hl.1 (Nat.le_of_ble_eq_true rfl) dX7_temperature_26 ⟨Nat.le_refl _, Nat.le_refl _⟩ (fun H locs hP hD hS => ?_)
    have ef : (f_X7_temperature w p0) = ((f_X7_fails 1).1, (f_X7_fails 1).2) := (if_pos c_1)
    exact gRetI F hr hlocks hK hP hD hS (by rw [ef]) (by rw [ef]) (Nat.le_of_ble_eq_true rfl) (Nat.le_of_ble_eq_true rfl) dX7_temperature_29
  · skip
    refine lv_aload_n hx hb dX7_temperature_12 rfl (lv_at hl 0 rfl) ?_
    refine va_get (D := G.1) (ci := 10) (v := .ref m1) (C := RX7) (T := TX7) (N := 21) hx hb hts in_X7 hown hK hP 0 rfl rfl 1 (by decide) (hts _ k_fl_X7_7) (fun _ h9 => h9) rfl dX7_temperature_13 ?_
    refine lv_bipush (v := 14) hx hb dX7_temperature_16 (by decide) ?_
    refine lv_iload_n hx hb dX7_temperature_18 rfl (lv_at hl 1 rfl) ?_
    refine lv_iadd hx hb dX7_temperature_19 ?_
    refine va_iald hx hb hK hP 1 0 rfl rfl (by have qc_1 := tank_of c_1; have z0 : (14 : Int32).toInt = 14 := (by decide); (try have z2 := gI_add (x := 14) (y := p0) (by omega) (by omega)); (try rw [vp_in_iff]); omega) dX7_temperature_20 ?_
    refine lv_goto (tgt := 29) hx hb dX7_temperature_21 (by decide) ?_
    have ef : (f_X7_temperature w p0) = ((w (Int32.toNatClampNeg (14 + p0))), 0) := (if_neg c_1)
    exact gRetI F hr hlocks hK hP hD hS (by rw [ef]) (by rw [ef]) (Nat.le_of_ble_eq_true rfl) (Nat.le_of_ble_eq_true rfl) dX7_temperature_29
theorem okV_X7_temperature : gOkV yX7_temperature cX7_temperature 2 (some .int) 1 := ⟨⟨k_im_X7_temperature, k_se_X7_temperature, k_in_X7, k_cd_X7_temperature⟩, by decide, by decide, by decide +kernel⟩
def f_X7_setOven (w : Nat → Int32) (p0 : Int32) : Int32 × Int32 × (Nat → Int32) :=
  if (f_X7_isWarmth p0) = 0 then
    ((f_X7_fails 1).1, (f_X7_fails 1).2, w)
  else
    ((f_X7_puts w 8 p0).1, 0, (f_X7_puts w 8 p0).2)
set_option maxRecDepth 100000 in
set_option maxHeartbeats 4000000 in
theorem c_X7_setOven (l : Launch) (G : gG) (m0 : Nat) (m1 : Nat) (m2 : Nat) (m3 : Nat) (m6 : Nat) (m13 : Nat) (m14 : Nat) (m17 : Nat) (m18 : Nat) (m19 : Nat) (rz : Int32) (hf : Int32) (hs : Int32) (len : Int32) (ec : Int32) (ep : Int32) (pos : Int32) (bg : Int32) (bad : Int32) (plc : Int32) (sta : Int32) (shm : Int32) (w : Nat → Int32) (p0 : Int32) : gM l G yX7_setOven cX7_setOven 2 (some .int) { frames := 2, cells := 0, slots := 0, locals := 45 } [.ref m0, .int p0] [(m0, .inr (10, [.int rz, .ref m1, .ref m2, .ref m3, .int hf, .int hs, .ref m6, .int len, .int ec, .int ep, .int pos, .int bg, .int bad, .ref m13, .ref m14, .int plc, .int sta, .ref m17, .ref m18, .ref m19, .int shm])), (m1, .inl (G.2.1.1, 670, .inl w))] (some (.int ((f_X7_setOven w p0).1))) [(m0, .inr (10, [.int ((f_X7_setOven w p0).2.1), .ref m1, .ref m2, .ref m3, .int hf, .int hs, .ref m6, .int len, .int ec, .int ep, .int pos, .int bg, .int bad, .ref m13, .ref m14, .int plc, .int sta, .ref m17, .ref m18, .ref m19, .int shm])), (m1, .inl (G.2.1.1, 670, .inl ((f_X7_setOven w p0).2.2)))] 0 0 := by
  refine gBegin (by decide +kernel) (Nat.le_of_ble_eq_true rfl) (fun p e s m args below meth c A F hr hlocks hname hN hK hP hD hA hS ls hl => ?_)
  obtain ⟨hx, hb, hml, hown, hts⟩ := id F
  replace hP : va_P G.1 vwCl [(m0, .inr (10, [.int rz, .ref m1, .ref m2, .ref m3, .int hf, .int hs, .ref m6, .int len, .int ec, .int ep, .int pos, .int bg, .int bad, .ref m13, .ref m14, .int plc, .int sta, .ref m17, .ref m18, .ref m19, .int shm])), (m1, .inl (G.2.1.1, 670, .inl w))] s.heap := hP
  replace hl : lv_has ls 2 [(0, .ref m0), (1, .int p0)] := hl
  refine lv_aload_n hx hb dX7_setOven_0 rfl (lv_at hl 0 rfl) ?_
  refine lv_iconst (v := 0) hx hb dX7_setOven_1 (by decide) ?_
  refine va_put (D := G.1) (ci := 10) (v := .int 0) (ty := .int) (C := RX7) (T := TX7) (N := 21) hx hb hts in_X7 tyX7 tyX7_ok nmX7 hown hK hP hD hS 0 rfl rfl 0 (by decide) (hts _ k_fl_X7_76) (fun _ h9 => h9) rfl (by decide +kernel) rfl rfl (Nat.le_of_ble_eq_true rfl) dX7_setOven_2 (fun H locs hP hD hS => ?_)
  replace hP : va_P G.1 vwCl [(m0, .inr (10, [.int 0, .ref m1, .ref m2, .ref m3, .int hf, .int hs, .ref m6, .int len, .int ec, .int ep, .int pos, .int bg, .int bad, .ref m13, .ref m14, .int plc, .int sta, .ref m17, .ref m18, .ref m19, .int shm])), (m1, .inl (G.2.1.1, 670, .inl w))] H := hP
  replace hD : va_D A [(m0, .inr (10, [.int 0, .ref m1, .ref m2, .ref m3, .int hf, .int hs, .ref m6, .int len, .int ec, .int ep, .int pos, .int bg, .int bad, .ref m13, .ref m14, .int plc, .int sta, .ref m17, .ref m18, .ref m19, .int shm])), (m1, .inl (G.2.1.1, 670, .inl w))] := hD
  refine lv_iload_n hx hb dX7_setOven_5 rfl (lv_at hl 1 rfl) ?_
  refine gS (As := [.int p0]) (rest := []) (wr := [(m0, .inr (10, [.int 0, .ref m1, .ref m2, .ref m3, .int hf, .int hs, .ref m6, .int len, .int ec, .int ep, .int pos, .int bg, .int bad, .ref m13, .ref m14, .int plc, .int sta, .ref m17, .ref m18, .ref m19, .int shm])), (m1, .inl (G.2.1.1, 670, .inl w))]) (ws' := [(m0, .inr (10, [.int 0, .ref m1, .ref m2, .ref m3, .int hf, .int hs, .ref m6, .int len, .int ec, .int ep, .int pos, .int bg, .int bad, .ref m13, .ref m14, .int plc, .int sta, .ref m17, .ref m18, .ref m19, .int shm])), (m1, .inl (G.2.1.1, 670, .inl w))]) F (c_X7_isWarmth l G p0) okS_X7_isWarmth k_ml_X7_212 rfl rfl ⟨Nat.le_of_ble_eq_true rfl, Nat.le_of_ble_eq_true rfl⟩ hN hK hP hD hS hA [] [0, 1] [0, 1] (by decide) rfl rfl (by decide) (by decide) (by decide) rfl rfl rfl hl.1 (Nat.le_of_ble_eq_true rfl) dX7_setOven_6 ⟨Nat.le_refl _, Nat.le_refl _⟩ (fun H locs hP hD hS => ?_)
  refine lv_if_eq (tgt := 22) hx hb dX7_setOven_9 (by decide) (fun c_1 => ?_) (fun c_1 => ?_)
  · skip
    refine lv_aload_n hx hb dX7_setOven_22 rfl (lv_at hl 0 rfl) ?_
    refine lv_iconst (v := 1) hx hb dX7_setOven_23 (by decide) ?_
    refine gV (As := [.int 1]) (rest := []) (wr := [(m1, .inl (G.2.1.1, 670, .inl w))]) (ws' := [(m0, .inr (10, [.int ((f_X7_fails 1).2), .ref m1, .ref m2, .ref m3, .int hf, .int hs, .ref m6, .int len, .int ec, .int ep, .int pos, .int bg, .int bad, .ref m13, .ref m14, .int plc, .int sta, .ref m17, .ref m18, .ref m19, .int shm])), (m1, .inl (G.2.1.1, 670, .inl w))]) F (c_X7_fails l G m0 m1 m2 m3 m6 m13 m14 m17 m18 m19 0 hf hs len ec ep pos bg bad plc sta shm 1) okV_X7_fails k_ml_X7_98 rfl rfl ⟨Nat.le_of_ble_eq_true rfl, Nat.le_of_ble_eq_true rfl⟩ hN hK hP hD hS hA [0] [1] [1, 0] (by decide) rfl rfl (by decide) (by decide) (by decide) rfl (q0 := 0) rfl rfl rfl rfl hl.1 (Nat.le_of_ble_eq_true rfl) dX7_setOven_24 ⟨Nat.le_refl _, Nat.le_refl _⟩ (fun H locs hP hD hS => ?_)
    have ef : (f_X7_setOven w p0) = ((f_X7_fails 1).1, (f_X7_fails 1).2, w) := (if_pos c_1)
    exact gRetI F hr hlocks hK hP hD hS (by rw [ef]) (by rw [ef]) (Nat.le_of_ble_eq_true rfl) (Nat.le_of_ble_eq_true rfl) dX7_setOven_27
  · skip
    refine lv_aload_n hx hb dX7_setOven_12 rfl (lv_at hl 0 rfl) ?_
    refine lv_bipush (v := 8) hx hb dX7_setOven_13 (by decide) ?_
    refine lv_iload_n hx hb dX7_setOven_15 rfl (lv_at hl 1 rfl) ?_
    refine gV (As := [.int 8, .int p0]) (rest := []) (wr := []) (ws' := [(m0, .inr (10, [.int 0, .ref m1, .ref m2, .ref m3, .int hf, .int hs, .ref m6, .int len, .int ec, .int ep, .int pos, .int bg, .int bad, .ref m13, .ref m14, .int plc, .int sta, .ref m17, .ref m18, .ref m19, .int shm])), (m1, .inl (G.2.1.1, 670, .inl ((f_X7_puts w 8 p0).2)))]) F (c_X7_puts l G m0 m1 m2 m3 m6 m13 m14 m17 m18 m19 0 hf hs len ec ep pos bg bad plc sta shm w 8 p0 (by have z0 : (8 : Int32).toInt = 8 := (by decide); omega)) okV_X7_puts k_ml_X7_215 rfl rfl ⟨Nat.le_of_ble_eq_true rfl, Nat.le_of_ble_eq_true rfl⟩ hN hK hP hD hS hA [0, 1] [] [0, 1] (by decide) rfl rfl (by decide) (by decide) (by decide) rfl (q0 := 0) rfl rfl rfl rfl hl.1 (Nat.le_of_ble_eq_true rfl) dX7_setOven_16 ⟨Nat.le_refl _, Nat.le_refl _⟩ (fun H locs hP hD hS => ?_)
    refine lv_goto (tgt := 27) hx hb dX7_setOven_19 (by decide) ?_
    have ef : (f_X7_setOven w p0) = ((f_X7_puts w 8 p0).1, 0, (f_X7_puts w 8 p0).2) := (if_neg c_1)
    exact gRetI F hr hlocks hK hP hD hS (by rw [ef]) (by rw [ef]) (Nat.le_of_ble_eq_true rfl) (Nat.le_of_ble_eq_true rfl) dX7_setOven_27
theorem okV_X7_setOven : gOkV yX7_setOven cX7_setOven 2 (some .int) 1 := ⟨⟨k_im_X7_setOven, k_se_X7_setOven, k_in_X7, k_cd_X7_setOven⟩, by decide, by decide, by decide +kernel⟩
def f_X7_setPilotTemperature (w : Nat → Int32) (p0 : Int32) : Int32 × Int32 × (Nat → Int32) :=
  if (f_X7_isWarmth p0) = 0 then
    ((f_X7_fails 1).1, (f_X7_fails 1).2, w)
  else
    ((f_X7_puts w 9 p0).1, 0, (f_X7_puts w 9 p0).2)
set_option maxRecDepth 100000 in
set_option maxHeartbeats 4000000 in
theorem c_X7_setPilotTemperature (l : Launch) (G : gG) (m0 : Nat) (m1 : Nat) (m2 : Nat) (m3 : Nat) (m6 : Nat) (m13 : Nat) (m14 : Nat) (m17 : Nat) (m18 : Nat) (m19 : Nat) (rz : Int32) (hf : Int32) (hs : Int32) (len : Int32) (ec : Int32) (ep : Int32) (pos : Int32) (bg : Int32) (bad : Int32) (plc : Int32) (sta : Int32) (shm : Int32) (w : Nat → Int32) (p0 : Int32) : gM l G yX7_setPilotTemperature cX7_setPilotTemperature 2 (some .int) { frames := 2, cells := 0, slots := 0, locals := 45 } [.ref m0, .int p0] [(m0, .inr (10, [.int rz, .ref m1, .ref m2, .ref m3, .int hf, .int hs, .ref m6, .int len, .int ec, .int ep, .int pos, .int bg, .int bad, .ref m13, .ref m14, .int plc, .int sta, .ref m17, .ref m18, .ref m19, .int shm])), (m1, .inl (G.2.1.1, 670, .inl w))] (some (.int ((f_X7_setPilotTemperature w p0).1))) [(m0, .inr (10, [.int ((f_X7_setPilotTemperature w p0).2.1), .ref m1, .ref m2, .ref m3, .int hf, .int hs, .ref m6, .int len, .int ec, .int ep, .int pos, .int bg, .int bad, .ref m13, .ref m14, .int plc, .int sta, .ref m17, .ref m18, .ref m19, .int shm])), (m1, .inl (G.2.1.1, 670, .inl ((f_X7_setPilotTemperature w p0).2.2)))] 0 0 := by
  refine gBegin (by decide +kernel) (Nat.le_of_ble_eq_true rfl) (fun p e s m args below meth c A F hr hlocks hname hN hK hP hD hA hS ls hl => ?_)
  obtain ⟨hx, hb, hml, hown, hts⟩ := id F
  replace hP : va_P G.1 vwCl [(m0, .inr (10, [.int rz, .ref m1, .ref m2, .ref m3, .int hf, .int hs, .ref m6, .int len, .int ec, .int ep, .int pos, .int bg, .int bad, .ref m13, .ref m14, .int plc, .int sta, .ref m17, .ref m18, .ref m19, .int shm])), (m1, .inl (G.2.1.1, 670, .inl w))] s.heap := hP
  replace hl : lv_has ls 2 [(0, .ref m0), (1, .int p0)] := hl
  refine lv_aload_n hx hb dX7_setPilotTemperature_0 rfl (lv_at hl 0 rfl) ?_
  refine lv_iconst (v := 0) hx hb dX7_setPilotTemperature_1 (by decide) ?_
  refine va_put (D := G.1) (ci := 10) (v := .int 0) (ty := .int) (C := RX7) (T := TX7) (N := 21) hx hb hts in_X7 tyX7 tyX7_ok nmX7 hown hK hP hD hS 0 rfl rfl 0 (by decide) (hts _ k_fl_X7_76) (fun _ h9 => h9) rfl (by decide +kernel) rfl rfl (Nat.le_of_ble_eq_true rfl) dX7_setPilotTemperature_2 (fun H locs hP hD hS => ?_)
  replace hP : va_P G.1 vwCl [(m0, .inr (10, [.int 0, .ref m1, .ref m2, .ref m3, .int hf, .int hs, .ref m6, .int len, .int ec, .int ep, .int pos, .int bg, .int bad, .ref m13, .ref m14, .int plc, .int sta, .ref m17, .ref m18, .ref m19, .int shm])), (m1, .inl (G.2.1.1, 670, .inl w))] H := hP
  replace hD : va_D A [(m0, .inr (10, [.int 0, .ref m1, .ref m2, .ref m3, .int hf, .int hs, .ref m6, .int len, .int ec, .int ep, .int pos, .int bg, .int bad, .ref m13, .ref m14, .int plc, .int sta, .ref m17, .ref m18, .ref m19, .int shm])), (m1, .inl (G.2.1.1, 670, .inl w))] := hD
  refine lv_iload_n hx hb dX7_setPilotTemperature_5 rfl (lv_at hl 1 rfl) ?_
  refine gS (As := [.int p0]) (rest := []) (wr := [(m0, .inr (10, [.int 0, .ref m1, .ref m2, .ref m3, .int hf, .int hs, .ref m6, .int len, .int ec, .int ep, .int pos, .int bg, .int bad, .ref m13, .ref m14, .int plc, .int sta, .ref m17, .ref m18, .ref m19, .int shm])), (m1, .inl (G.2.1.1, 670, .inl w))]) (ws' := [(m0, .inr (10, [.int 0, .ref m1, .ref m2, .ref m3, .int hf, .int hs, .ref m6, .int len, .int ec, .int ep, .int pos, .int bg, .int bad, .ref m13, .ref m14, .int plc, .int sta, .ref m17, .ref m18, .ref m19, .int shm])), (m1, .inl (G.2.1.1, 670, .inl w))]) F (c_X7_isWarmth l G p0) okS_X7_isWarmth k_ml_X7_212 rfl rfl ⟨Nat.le_of_ble_eq_true rfl, Nat.le_of_ble_eq_true rfl⟩ hN hK hP hD hS hA [] [0, 1] [0, 1] (by decide) rfl rfl (by decide) (by decide) (by decide) rfl rfl rfl hl.1 (Nat.le_of_ble_eq_true rfl) dX7_setPilotTemperature_6 ⟨Nat.le_refl _, Nat.le_refl _⟩ (fun H locs hP hD hS => ?_)
  refine lv_if_eq (tgt := 22) hx hb dX7_setPilotTemperature_9 (by decide) (fun c_1 => ?_) (fun c_1 => ?_)
  · skip
    refine lv_aload_n hx hb dX7_setPilotTemperature_22 rfl (lv_at hl 0 rfl) ?_
    refine lv_iconst (v := 1) hx hb dX7_setPilotTemperature_23 (by decide) ?_
    refine gV (As := [.int 1]) (rest := []) (wr := [(m1, .inl (G.2.1.1, 670, .inl w))]) (ws' := [(m0, .inr (10, [.int ((f_X7_fails 1).2), .ref m1, .ref m2, .ref m3, .int hf, .int hs, .ref m6, .int len, .int ec, .int ep, .int pos, .int bg, .int bad, .ref m13, .ref m14, .int plc, .int sta, .ref m17, .ref m18, .ref m19, .int shm])), (m1, .inl (G.2.1.1, 670, .inl w))]) F (c_X7_fails l G m0 m1 m2 m3 m6 m13 m14 m17 m18 m19 0 hf hs len ec ep pos bg bad plc sta shm 1) okV_X7_fails k_ml_X7_98 rfl rfl ⟨Nat.le_of_ble_eq_true rfl, Nat.le_of_ble_eq_true rfl⟩ hN hK hP hD hS hA [0] [1] [1, 0] (by decide) rfl rfl (by decide) (by decide) (by decide) rfl (q0 := 0) rfl rfl rfl rfl hl.1 (Nat.le_of_ble_eq_true rfl) dX7_setPilotTemperature_24 ⟨Nat.le_refl _, Nat.le_refl _⟩ (fun H locs hP hD hS => ?_)
    have ef : (f_X7_setPilotTemperature w p0) = ((f_X7_fails 1).1, (f_X7_fails 1).2, w) := (if_pos c_1)
    exact gRetI F hr hlocks hK hP hD hS (by rw [ef]) (by rw [ef]) (Nat.le_of_ble_eq_true rfl) (Nat.le_of_ble_eq_true rfl) dX7_setPilotTemperature_27
  · skip
    refine lv_aload_n hx hb dX7_setPilotTemperature_12 rfl (lv_at hl 0 rfl) ?_
    refine lv_bipush (v := 9) hx hb dX7_setPilotTemperature_13 (by decide) ?_
    refine lv_iload_n hx hb dX7_setPilotTemperature_15 rfl (lv_at hl 1 rfl) ?_
    refine gV (As := [.int 9, .int p0]) (rest := []) (wr := []) (ws' := [(m0, .inr (10, [.int 0, .ref m1, .ref m2, .ref m3, .int hf, .int hs, .ref m6, .int len, .int ec, .int ep, .int pos, .int bg, .int bad, .ref m13, .ref m14, .int plc, .int sta, .ref m17, .ref m18, .ref m19, .int shm])), (m1, .inl (G.2.1.1, 670, .inl ((f_X7_puts w 9 p0).2)))]) F (c_X7_puts l G m0 m1 m2 m3 m6 m13 m14 m17 m18 m19 0 hf hs len ec ep pos bg bad plc sta shm w 9 p0 (by have z0 : (9 : Int32).toInt = 9 := (by decide); omega)) okV_X7_puts k_ml_X7_215 rfl rfl ⟨Nat.le_of_ble_eq_true rfl, Nat.le_of_ble_eq_true rfl⟩ hN hK hP hD hS hA [0, 1] [] [0, 1] (by decide) rfl rfl (by decide) (by decide) (by decide) rfl (q0 := 0) rfl rfl rfl rfl hl.1 (Nat.le_of_ble_eq_true rfl) dX7_setPilotTemperature_16 ⟨Nat.le_refl _, Nat.le_refl _⟩ (fun H locs hP hD hS => ?_)
    refine lv_goto (tgt := 27) hx hb dX7_setPilotTemperature_19 (by decide) ?_
    have ef : (f_X7_setPilotTemperature w p0) = ((f_X7_puts w 9 p0).1, 0, (f_X7_puts w 9 p0).2) := (if_neg c_1)
    exact gRetI F hr hlocks hK hP hD hS (by rw [ef]) (by rw [ef]) (Nat.le_of_ble_eq_true rfl) (Nat.le_of_ble_eq_true rfl) dX7_setPilotTemperature_27
theorem okV_X7_setPilotTemperature : gOkV yX7_setPilotTemperature cX7_setPilotTemperature 2 (some .int) 1 := ⟨⟨k_im_X7_setPilotTemperature, k_se_X7_setPilotTemperature, k_in_X7, k_cd_X7_setPilotTemperature⟩, by decide, by decide, by decide +kernel⟩
def f_X7_setPilot (w : Nat → Int32) (p0 : Int32) : Int32 × Int32 × (Nat → Int32) :=
  if p0 = 0 then
    if (f_X7_puts w 10 0).1 = 1 then
      (1, 0, (f_X7_puts w 10 0).2)
    else
      (0, 0, (f_X7_puts w 10 0).2)
  else
    if (f_X7_puts w 10 1).1 = 1 then
      (1, 0, (f_X7_puts w 10 1).2)
    else
      (0, 0, (f_X7_puts w 10 1).2)
set_option maxRecDepth 100000 in
set_option maxHeartbeats 4000000 in
theorem c_X7_setPilot (l : Launch) (G : gG) (m0 : Nat) (m1 : Nat) (m2 : Nat) (m3 : Nat) (m6 : Nat) (m13 : Nat) (m14 : Nat) (m17 : Nat) (m18 : Nat) (m19 : Nat) (rz : Int32) (hf : Int32) (hs : Int32) (len : Int32) (ec : Int32) (ep : Int32) (pos : Int32) (bg : Int32) (bad : Int32) (plc : Int32) (sta : Int32) (shm : Int32) (w : Nat → Int32) (p0 : Int32) : gM l G yX7_setPilot cX7_setPilot 2 (some .boolean) { frames := 1, cells := 0, slots := 0, locals := 23 } [.ref m0, .int p0] [(m0, .inr (10, [.int rz, .ref m1, .ref m2, .ref m3, .int hf, .int hs, .ref m6, .int len, .int ec, .int ep, .int pos, .int bg, .int bad, .ref m13, .ref m14, .int plc, .int sta, .ref m17, .ref m18, .ref m19, .int shm])), (m1, .inl (G.2.1.1, 670, .inl w))] (some (.int ((f_X7_setPilot w p0).1))) [(m0, .inr (10, [.int ((f_X7_setPilot w p0).2.1), .ref m1, .ref m2, .ref m3, .int hf, .int hs, .ref m6, .int len, .int ec, .int ep, .int pos, .int bg, .int bad, .ref m13, .ref m14, .int plc, .int sta, .ref m17, .ref m18, .ref m19, .int shm])), (m1, .inl (G.2.1.1, 670, .inl ((f_X7_setPilot w p0).2.2)))] 0 0 := by
  refine gBegin (by decide +kernel) (Nat.le_of_ble_eq_true rfl) (fun p e s m args below meth c A F hr hlocks hname hN hK hP hD hA hS ls hl => ?_)
  obtain ⟨hx, hb, hml, hown, hts⟩ := id F
  replace hP : va_P G.1 vwCl [(m0, .inr (10, [.int rz, .ref m1, .ref m2, .ref m3, .int hf, .int hs, .ref m6, .int len, .int ec, .int ep, .int pos, .int bg, .int bad, .ref m13, .ref m14, .int plc, .int sta, .ref m17, .ref m18, .ref m19, .int shm])), (m1, .inl (G.2.1.1, 670, .inl w))] s.heap := hP
  replace hl : lv_has ls 2 [(0, .ref m0), (1, .int p0)] := hl
  refine lv_aload_n hx hb dX7_setPilot_0 rfl (lv_at hl 0 rfl) ?_
  refine lv_iconst (v := 0) hx hb dX7_setPilot_1 (by decide) ?_
  refine va_put (D := G.1) (ci := 10) (v := .int 0) (ty := .int) (C := RX7) (T := TX7) (N := 21) hx hb hts in_X7 tyX7 tyX7_ok nmX7 hown hK hP hD hS 0 rfl rfl 0 (by decide) (hts _ k_fl_X7_76) (fun _ h9 => h9) rfl (by decide +kernel) rfl rfl (Nat.le_of_ble_eq_true rfl) dX7_setPilot_2 (fun H locs hP hD hS => ?_)
  replace hP : va_P G.1 vwCl [(m0, .inr (10, [.int 0, .ref m1, .ref m2, .ref m3, .int hf, .int hs, .ref m6, .int len, .int ec, .int ep, .int pos, .int bg, .int bad, .ref m13, .ref m14, .int plc, .int sta, .ref m17, .ref m18, .ref m19, .int shm])), (m1, .inl (G.2.1.1, 670, .inl w))] H := hP
  replace hD : va_D A [(m0, .inr (10, [.int 0, .ref m1, .ref m2, .ref m3, .int hf, .int hs, .ref m6, .int len, .int ec, .int ep, .int pos, .int bg, .int bad, .ref m13, .ref m14, .int plc, .int sta, .ref m17, .ref m18, .ref m19, .int shm])), (m1, .inl (G.2.1.1, 670, .inl w))] := hD
  refine lv_aload_n hx hb dX7_setPilot_5 rfl (lv_at hl 0 rfl) ?_
  refine lv_bipush (v := 10) hx hb dX7_setPilot_6 (by decide) ?_
  refine lv_iload_n hx hb dX7_setPilot_8 rfl (lv_at hl 1 rfl) ?_
  refine lv_if_eq (tgt := 16) hx hb dX7_setPilot_9 (by decide) (fun c_1 => ?_) (fun c_1 => ?_)
  · skip
    refine lv_iconst (v := 0) hx hb dX7_setPilot_16 (by decide) ?_
    refine gV (As := [.int 10, .int 0]) (rest := []) (wr := []) (ws' := [(m0, .inr (10, [.int 0, .ref m1, .ref m2, .ref m3, .int hf, .int hs, .ref m6, .int len, .int ec, .int ep, .int pos, .int bg, .int bad, .ref m13, .ref m14, .int plc, .int sta, .ref m17, .ref m18, .ref m19, .int shm])), (m1, .inl (G.2.1.1, 670, .inl ((f_X7_puts w 10 0).2)))]) F (c_X7_puts l G m0 m1 m2 m3 m6 m13 m14 m17 m18 m19 0 hf hs len ec ep pos bg bad plc sta shm w 10 0 (by have z0 : (10 : Int32).toInt = 10 := (by decide); omega)) okV_X7_puts k_ml_X7_215 rfl rfl ⟨Nat.le_of_ble_eq_true rfl, Nat.le_of_ble_eq_true rfl⟩ hN hK hP hD hS hA [0, 1] [] [0, 1] (by decide) rfl rfl (by decide) (by decide) (by decide) rfl (q0 := 0) rfl rfl rfl rfl hl.1 (Nat.le_of_ble_eq_true rfl) dX7_setPilot_17 ⟨Nat.le_refl _, Nat.le_refl _⟩ (fun H locs hP hD hS => ?_)
    refine lv_iconst (v := 1) hx hb dX7_setPilot_20 (by decide) ?_
    refine lv_icmp_ne (tgt := 28) hx hb dX7_setPilot_21 (by decide) (fun c_2 => ?_) (fun c_2 => ?_)
    · skip
      refine lv_iconst (v := 0) hx hb dX7_setPilot_28 (by decide) ?_
      have ef : (f_X7_setPilot w p0) = (0, 0, (f_X7_puts w 10 0).2) := ((if_pos c_1).trans (if_neg c_2))
      exact gRetZ F hr hlocks hK hP hD hS rfl (by rw [ef]) (by rw [ef]) (Nat.le_of_ble_eq_true rfl) (Nat.le_of_ble_eq_true rfl) dX7_setPilot_29
    · skip
      refine lv_iconst (v := 1) hx hb dX7_setPilot_24 (by decide) ?_
      refine lv_goto (tgt := 29) hx hb dX7_setPilot_25 (by decide) ?_
      have ef : (f_X7_setPilot w p0) = (1, 0, (f_X7_puts w 10 0).2) := ((if_pos c_1).trans (if_pos c_2))
      exact gRetZ F hr hlocks hK hP hD hS rfl (by rw [ef]) (by rw [ef]) (Nat.le_of_ble_eq_true rfl) (Nat.le_of_ble_eq_true rfl) dX7_setPilot_29
  · skip
    refine lv_iconst (v := 1) hx hb dX7_setPilot_12 (by decide) ?_
    refine lv_goto (tgt := 17) hx hb dX7_setPilot_13 (by decide) ?_
    refine gV (As := [.int 10, .int 1]) (rest := []) (wr := []) (ws' := [(m0, .inr (10, [.int 0, .ref m1, .ref m2, .ref m3, .int hf, .int hs, .ref m6, .int len, .int ec, .int ep, .int pos, .int bg, .int bad, .ref m13, .ref m14, .int plc, .int sta, .ref m17, .ref m18, .ref m19, .int shm])), (m1, .inl (G.2.1.1, 670, .inl ((f_X7_puts w 10 1).2)))]) F (c_X7_puts l G m0 m1 m2 m3 m6 m13 m14 m17 m18 m19 0 hf hs len ec ep pos bg bad plc sta shm w 10 1 (by have z0 : (10 : Int32).toInt = 10 := (by decide); omega)) okV_X7_puts k_ml_X7_215 rfl rfl ⟨Nat.le_of_ble_eq_true rfl, Nat.le_of_ble_eq_true rfl⟩ hN hK hP hD hS hA [0, 1] [] [0, 1] (by decide) rfl rfl (by decide) (by decide) (by decide) rfl (q0 := 0) rfl rfl rfl rfl hl.1 (Nat.le_of_ble_eq_true rfl) dX7_setPilot_17 ⟨Nat.le_refl _, Nat.le_refl _⟩ (fun H locs hP hD hS => ?_)
    refine lv_iconst (v := 1) hx hb dX7_setPilot_20 (by decide) ?_
    refine lv_icmp_ne (tgt := 28) hx hb dX7_setPilot_21 (by decide) (fun c_3 => ?_) (fun c_3 => ?_)
    · skip
      refine lv_iconst (v := 0) hx hb dX7_setPilot_28 (by decide) ?_
      have ef : (f_X7_setPilot w p0) = (0, 0, (f_X7_puts w 10 1).2) := ((if_neg c_1).trans (if_neg c_3))
      exact gRetZ F hr hlocks hK hP hD hS rfl (by rw [ef]) (by rw [ef]) (Nat.le_of_ble_eq_true rfl) (Nat.le_of_ble_eq_true rfl) dX7_setPilot_29
    · skip
      refine lv_iconst (v := 1) hx hb dX7_setPilot_24 (by decide) ?_
      refine lv_goto (tgt := 29) hx hb dX7_setPilot_25 (by decide) ?_
      have ef : (f_X7_setPilot w p0) = (1, 0, (f_X7_puts w 10 1).2) := ((if_neg c_1).trans (if_pos c_3))
      exact gRetZ F hr hlocks hK hP hD hS rfl (by rw [ef]) (by rw [ef]) (Nat.le_of_ble_eq_true rfl) (Nat.le_of_ble_eq_true rfl) dX7_setPilot_29
theorem okV_X7_setPilot : gOkV yX7_setPilot cX7_setPilot 2 (some .boolean) 1 := ⟨⟨k_im_X7_setPilot, k_se_X7_setPilot, k_in_X7, k_cd_X7_setPilot⟩, by decide, by decide, by decide +kernel⟩
def f_X7_setFixedPeriod (w : Nat → Int32) (p0 : Int32) : Int32 × Int32 × (Nat → Int32) :=
  if (f_X7_in (Int32.toInt64 p0) 900000 1100000) = 0 then
    ((f_X7_fails 1).1, (f_X7_fails 1).2, w)
  else
    ((f_X7_puts w 11 p0).1, 0, (f_X7_puts w 11 p0).2)
set_option maxRecDepth 100000 in
set_option maxHeartbeats 4000000 in
theorem c_X7_setFixedPeriod (l : Launch) (G : gG) (m0 : Nat) (m1 : Nat) (m2 : Nat) (m3 : Nat) (m6 : Nat) (m13 : Nat) (m14 : Nat) (m17 : Nat) (m18 : Nat) (m19 : Nat) (rz : Int32) (hf : Int32) (hs : Int32) (len : Int32) (ec : Int32) (ep : Int32) (pos : Int32) (bg : Int32) (bad : Int32) (plc : Int32) (sta : Int32) (shm : Int32) (w : Nat → Int32) (p0 : Int32) : gM l G yX7_setFixedPeriod cX7_setFixedPeriod 2 (some .int) { frames := 1, cells := 0, slots := 0, locals := 25 } [.ref m0, .int p0] [(m0, .inr (10, [.int rz, .ref m1, .ref m2, .ref m3, .int hf, .int hs, .ref m6, .int len, .int ec, .int ep, .int pos, .int bg, .int bad, .ref m13, .ref m14, .int plc, .int sta, .ref m17, .ref m18, .ref m19, .int shm])), (m1, .inl (G.2.1.1, 670, .inl w))] (some (.int ((f_X7_setFixedPeriod w p0).1))) [(m0, .inr (10, [.int ((f_X7_setFixedPeriod w p0).2.1), .ref m1, .ref m2, .ref m3, .int hf, .int hs, .ref m6, .int len, .int ec, .int ep, .int pos, .int bg, .int bad, .ref m13, .ref m14, .int plc, .int sta, .ref m17, .ref m18, .ref m19, .int shm])), (m1, .inl (G.2.1.1, 670, .inl ((f_X7_setFixedPeriod w p0).2.2)))] 0 0 := by
  refine gBegin (by decide +kernel) (Nat.le_of_ble_eq_true rfl) (fun p e s m args below meth c A F hr hlocks hname hN hK hP hD hA hS ls hl => ?_)
  obtain ⟨hx, hb, hml, hown, hts⟩ := id F
  replace hP : va_P G.1 vwCl [(m0, .inr (10, [.int rz, .ref m1, .ref m2, .ref m3, .int hf, .int hs, .ref m6, .int len, .int ec, .int ep, .int pos, .int bg, .int bad, .ref m13, .ref m14, .int plc, .int sta, .ref m17, .ref m18, .ref m19, .int shm])), (m1, .inl (G.2.1.1, 670, .inl w))] s.heap := hP
  replace hl : lv_has ls 2 [(0, .ref m0), (1, .int p0)] := hl
  refine lv_aload_n hx hb dX7_setFixedPeriod_0 rfl (lv_at hl 0 rfl) ?_
  refine lv_iconst (v := 0) hx hb dX7_setFixedPeriod_1 (by decide) ?_
  refine va_put (D := G.1) (ci := 10) (v := .int 0) (ty := .int) (C := RX7) (T := TX7) (N := 21) hx hb hts in_X7 tyX7 tyX7_ok nmX7 hown hK hP hD hS 0 rfl rfl 0 (by decide) (hts _ k_fl_X7_76) (fun _ h9 => h9) rfl (by decide +kernel) rfl rfl (Nat.le_of_ble_eq_true rfl) dX7_setFixedPeriod_2 (fun H locs hP hD hS => ?_)
  replace hP : va_P G.1 vwCl [(m0, .inr (10, [.int 0, .ref m1, .ref m2, .ref m3, .int hf, .int hs, .ref m6, .int len, .int ec, .int ep, .int pos, .int bg, .int bad, .ref m13, .ref m14, .int plc, .int sta, .ref m17, .ref m18, .ref m19, .int shm])), (m1, .inl (G.2.1.1, 670, .inl w))] H := hP
  replace hD : va_D A [(m0, .inr (10, [.int 0, .ref m1, .ref m2, .ref m3, .int hf, .int hs, .ref m6, .int len, .int ec, .int ep, .int pos, .int bg, .int bad, .ref m13, .ref m14, .int plc, .int sta, .ref m17, .ref m18, .ref m19, .int shm])), (m1, .inl (G.2.1.1, 670, .inl w))] := hD
  refine lv_iload_n hx hb dX7_setFixedPeriod_5 rfl (lv_at hl 1 rfl) ?_
  refine lv_i2l (v := (Int32.toInt64 p0)) hx hb dX7_setFixedPeriod_6 rfl ?_
  refine lv_ldc2 (v := 900000) hx hb hown (hts _ k_lc_X7_219) dX7_setFixedPeriod_7 ?_
  refine lv_ldc2 (v := 1100000) hx hb hown (hts _ k_lc_X7_221) dX7_setFixedPeriod_10 ?_
  refine gS (As := [.long (Int32.toInt64 p0), .long 900000, .long 1100000]) (rest := []) (wr := [(m0, .inr (10, [.int 0, .ref m1, .ref m2, .ref m3, .int hf, .int hs, .ref m6, .int len, .int ec, .int ep, .int pos, .int bg, .int bad, .ref m13, .ref m14, .int plc, .int sta, .ref m17, .ref m18, .ref m19, .int shm])), (m1, .inl (G.2.1.1, 670, .inl w))]) (ws' := [(m0, .inr (10, [.int 0, .ref m1, .ref m2, .ref m3, .int hf, .int hs, .ref m6, .int len, .int ec, .int ep, .int pos, .int bg, .int bad, .ref m13, .ref m14, .int plc, .int sta, .ref m17, .ref m18, .ref m19, .int shm])), (m1, .inl (G.2.1.1, 670, .inl w))]) F (c_X7_in l G (Int32.toInt64 p0) 900000 1100000) okS_X7_in k_ml_X7_81 rfl rfl ⟨Nat.le_of_ble_eq_true rfl, Nat.le_of_ble_eq_true rfl⟩ hN hK hP hD hS hA [] [0, 1] [0, 1] (by decide) rfl rfl (by decide) (by decide) (by decide) rfl rfl rfl hl.1 (Nat.le_of_ble_eq_true rfl) dX7_setFixedPeriod_13 ⟨Nat.le_refl _, Nat.le_refl _⟩ (fun H locs hP hD hS => ?_)
  refine lv_if_eq (tgt := 29) hx hb dX7_setFixedPeriod_16 (by decide) (fun c_1 => ?_) (fun c_1 => ?_)
  · skip
    refine lv_aload_n hx hb dX7_setFixedPeriod_29 rfl (lv_at hl 0 rfl) ?_
    refine lv_iconst (v := 1) hx hb dX7_setFixedPeriod_30 (by decide) ?_
    refine gV (As := [.int 1]) (rest := []) (wr := [(m1, .inl (G.2.1.1, 670, .inl w))]) (ws' := [(m0, .inr (10, [.int ((f_X7_fails 1).2), .ref m1, .ref m2, .ref m3, .int hf, .int hs, .ref m6, .int len, .int ec, .int ep, .int pos, .int bg, .int bad, .ref m13, .ref m14, .int plc, .int sta, .ref m17, .ref m18, .ref m19, .int shm])), (m1, .inl (G.2.1.1, 670, .inl w))]) F (c_X7_fails l G m0 m1 m2 m3 m6 m13 m14 m17 m18 m19 0 hf hs len ec ep pos bg bad plc sta shm 1) okV_X7_fails k_ml_X7_98 rfl rfl ⟨Nat.le_of_ble_eq_true rfl, Nat.le_of_ble_eq_true rfl⟩ hN hK hP hD hS hA [0] [1] [1, 0] (by decide) rfl rfl (by decide) (by decide) (by decide) rfl (q0 := 0) rfl rfl rfl rfl hl.1 (Nat.le_of_ble_eq_true rfl) dX7_setFixedPeriod_31 ⟨Nat.le_refl _, Nat.le_refl _⟩ (fun H locs hP hD hS => ?_)
    have ef : (f_X7_setFixedPeriod w p0) = ((f_X7_fails 1).1, (f_X7_fails 1).2, w) := (if_pos c_1)
    exact gRetI F hr hlocks hK hP hD hS (by rw [ef]) (by rw [ef]) (Nat.le_of_ble_eq_true rfl) (Nat.le_of_ble_eq_true rfl) dX7_setFixedPeriod_34
  · skip
    refine lv_aload_n hx hb dX7_setFixedPeriod_19 rfl (lv_at hl 0 rfl) ?_
    refine lv_bipush (v := 11) hx hb dX7_setFixedPeriod_20 (by decide) ?_
    refine lv_iload_n hx hb dX7_setFixedPeriod_22 rfl (lv_at hl 1 rfl) ?_
    refine gV (As := [.int 11, .int p0]) (rest := []) (wr := []) (ws' := [(m0, .inr (10, [.int 0, .ref m1, .ref m2, .ref m3, .int hf, .int hs, .ref m6, .int len, .int ec, .int ep, .int pos, .int bg, .int bad, .ref m13, .ref m14, .int plc, .int sta, .ref m17, .ref m18, .ref m19, .int shm])), (m1, .inl (G.2.1.1, 670, .inl ((f_X7_puts w 11 p0).2)))]) F (c_X7_puts l G m0 m1 m2 m3 m6 m13 m14 m17 m18 m19 0 hf hs len ec ep pos bg bad plc sta shm w 11 p0 (by have qc_1 := in_ofI (a := 900000) (b := 1100000) c_1 (by decide) (by decide); have z0 : (11 : Int32).toInt = 11 := (by decide); omega)) okV_X7_puts k_ml_X7_215 rfl rfl ⟨Nat.le_of_ble_eq_true rfl, Nat.le_of_ble_eq_true rfl⟩ hN hK hP hD hS hA [0, 1] [] [0, 1] (by decide) rfl rfl (by decide) (by decide) (by decide) rfl (q0 := 0) rfl rfl rfl rfl hl.1 (Nat.le_of_ble_eq_true rfl) dX7_setFixedPeriod_23 ⟨Nat.le_refl _, Nat.le_refl _⟩ (fun H locs hP hD hS => ?_)
    refine lv_goto (tgt := 34) hx hb dX7_setFixedPeriod_26 (by decide) ?_
    have ef : (f_X7_setFixedPeriod w p0) = ((f_X7_puts w 11 p0).1, 0, (f_X7_puts w 11 p0).2) := (if_neg c_1)
    exact gRetI F hr hlocks hK hP hD hS (by rw [ef]) (by rw [ef]) (Nat.le_of_ble_eq_true rfl) (Nat.le_of_ble_eq_true rfl) dX7_setFixedPeriod_34
theorem okV_X7_setFixedPeriod : gOkV yX7_setFixedPeriod cX7_setFixedPeriod 2 (some .int) 1 := ⟨⟨k_im_X7_setFixedPeriod, k_se_X7_setFixedPeriod, k_in_X7, k_cd_X7_setFixedPeriod⟩, by decide, by decide, by decide +kernel⟩
def f_X7_delayAt (p0 : Int32) : Int32 :=
  (640000000 + (19200 * (p0 - 400)))
set_option maxRecDepth 100000 in
set_option maxHeartbeats 4000000 in
theorem c_X7_delayAt (l : Launch) (G : gG) (p0 : Int32) : gM l G yX7_delayAt cX7_delayAt 1 (some .int) { frames := 0, cells := 0, slots := 0, locals := 0 } [.int p0] [] (some (.int (f_X7_delayAt p0))) [] 0 0 := by
  refine gBegin (by decide +kernel) (Nat.le_of_ble_eq_true rfl) (fun p e s m args below meth c A F hr hlocks hname hN hK hP hD hA hS ls hl => ?_)
  obtain ⟨hx, hb, hml, hown, hts⟩ := id F
  replace hP : va_P G.1 vwCl [] s.heap := hP
  replace hl : lv_has ls 1 [(0, .int p0)] := hl
  refine lv_ldc (v := 640000000) hx hb hown (hts _ k_co_X7_223) dX7_delayAt_0 ?_
  refine lv_sipush (v := 19200) hx hb dX7_delayAt_2 (by decide) ?_
  refine lv_iload_n hx hb dX7_delayAt_5 rfl (lv_at hl 0 rfl) ?_
  refine lv_sipush (v := 400) hx hb dX7_delayAt_6 (by decide) ?_
  refine lv_isub hx hb dX7_delayAt_9 ?_
  refine lv_imul hx hb dX7_delayAt_10 ?_
  refine lv_iadd hx hb dX7_delayAt_11 ?_
  exact gRetI F hr hlocks hK hP hD hS rfl rfl (Nat.le_of_ble_eq_true rfl) (Nat.le_of_ble_eq_true rfl) dX7_delayAt_12
theorem okS_X7_delayAt : gOkS yX7_delayAt cX7_delayAt 1 (some .int) 1 := ⟨⟨k_st_X7_delayAt, k_in_X7, k_cd_X7_delayAt⟩, by decide, by decide, by decide +kernel⟩
def f_X7_periodNow (w : Nat → Int32) : Int32 :=
  if (w 10) = 1 then
    ((f_X7_delayAt (w 9)) / 640)
  else
    (w 11)
set_option maxRecDepth 100000 in
set_option maxHeartbeats 4000000 in
theorem c_X7_periodNow (l : Launch) (G : gG) (m0 : Nat) (m1 : Nat) (m2 : Nat) (m3 : Nat) (m6 : Nat) (m13 : Nat) (m14 : Nat) (m17 : Nat) (m18 : Nat) (m19 : Nat) (rz : Int32) (hf : Int32) (hs : Int32) (len : Int32) (ec : Int32) (ep : Int32) (pos : Int32) (bg : Int32) (bad : Int32) (plc : Int32) (sta : Int32) (shm : Int32) (w : Nat → Int32) : gM l G yX7_periodNow cX7_periodNow 1 (some .int) { frames := 1, cells := 0, slots := 0, locals := 20 } [.ref m0] [(m0, .inr (10, [.int rz, .ref m1, .ref m2, .ref m3, .int hf, .int hs, .ref m6, .int len, .int ec, .int ep, .int pos, .int bg, .int bad, .ref m13, .ref m14, .int plc, .int sta, .ref m17, .ref m18, .ref m19, .int shm])), (m1, .inl (G.2.1.1, 670, .inl w))] (some (.int (f_X7_periodNow w))) [(m0, .inr (10, [.int rz, .ref m1, .ref m2, .ref m3, .int hf, .int hs, .ref m6, .int len, .int ec, .int ep, .int pos, .int bg, .int bad, .ref m13, .ref m14, .int plc, .int sta, .ref m17, .ref m18, .ref m19, .int shm])), (m1, .inl (G.2.1.1, 670, .inl w))] 0 0 := by
  refine gBegin (by decide +kernel) (Nat.le_of_ble_eq_true rfl) (fun p e s m args below meth c A F hr hlocks hname hN hK hP hD hA hS ls hl => ?_)
  obtain ⟨hx, hb, hml, hown, hts⟩ := id F
  replace hP : va_P G.1 vwCl [(m0, .inr (10, [.int rz, .ref m1, .ref m2, .ref m3, .int hf, .int hs, .ref m6, .int len, .int ec, .int ep, .int pos, .int bg, .int bad, .ref m13, .ref m14, .int plc, .int sta, .ref m17, .ref m18, .ref m19, .int shm])), (m1, .inl (G.2.1.1, 670, .inl w))] s.heap := hP
  replace hl : lv_has ls 1 [(0, .ref m0)] := hl
  refine lv_aload_n hx hb dX7_periodNow_0 rfl (lv_at hl 0 rfl) ?_
  refine va_get (D := G.1) (ci := 10) (v := .ref m1) (C := RX7) (T := TX7) (N := 21) hx hb hts in_X7 hown hK hP 0 rfl rfl 1 (by decide) (hts _ k_fl_X7_7) (fun _ h9 => h9) rfl dX7_periodNow_1 ?_
  refine lv_bipush (v := 10) hx hb dX7_periodNow_4 (by decide) ?_
  refine gIald (k := 10) hx hb hK hP 1 0 rfl rfl (by decide) (gInL (by decide)) dX7_periodNow_6 ?_
  refine lv_iconst (v := 1) hx hb dX7_periodNow_7 (by decide) ?_
  refine lv_icmp_ne (tgt := 28) hx hb dX7_periodNow_8 (by decide) (fun c_1 => ?_) (fun c_1 => ?_)
  · skip
    refine lv_aload_n hx hb dX7_periodNow_28 rfl (lv_at hl 0 rfl) ?_
    refine va_get (D := G.1) (ci := 10) (v := .ref m1) (C := RX7) (T := TX7) (N := 21) hx hb hts in_X7 hown hK hP 0 rfl rfl 1 (by decide) (hts _ k_fl_X7_7) (fun _ h9 => h9) rfl dX7_periodNow_29 ?_
    refine lv_bipush (v := 11) hx hb dX7_periodNow_32 (by decide) ?_
    refine gIald (k := 11) hx hb hK hP 1 0 rfl rfl (by decide) (gInL (by decide)) dX7_periodNow_34 ?_
    have ef : (f_X7_periodNow w) = (w 11) := (if_neg c_1)
    exact gRetI F hr hlocks hK hP hD hS (by rw [ef]) rfl (Nat.le_of_ble_eq_true rfl) (Nat.le_of_ble_eq_true rfl) dX7_periodNow_35
  · skip
    refine lv_aload_n hx hb dX7_periodNow_11 rfl (lv_at hl 0 rfl) ?_
    refine va_get (D := G.1) (ci := 10) (v := .ref m1) (C := RX7) (T := TX7) (N := 21) hx hb hts in_X7 hown hK hP 0 rfl rfl 1 (by decide) (hts _ k_fl_X7_7) (fun _ h9 => h9) rfl dX7_periodNow_12 ?_
    refine lv_bipush (v := 9) hx hb dX7_periodNow_15 (by decide) ?_
    refine gIald (k := 9) hx hb hK hP 1 0 rfl rfl (by decide) (gInL (by decide)) dX7_periodNow_17 ?_
    refine gS (As := [.int (w 9)]) (rest := []) (wr := [(m0, .inr (10, [.int rz, .ref m1, .ref m2, .ref m3, .int hf, .int hs, .ref m6, .int len, .int ec, .int ep, .int pos, .int bg, .int bad, .ref m13, .ref m14, .int plc, .int sta, .ref m17, .ref m18, .ref m19, .int shm])), (m1, .inl (G.2.1.1, 670, .inl w))]) (ws' := [(m0, .inr (10, [.int rz, .ref m1, .ref m2, .ref m3, .int hf, .int hs, .ref m6, .int len, .int ec, .int ep, .int pos, .int bg, .int bad, .ref m13, .ref m14, .int plc, .int sta, .ref m17, .ref m18, .ref m19, .int shm])), (m1, .inl (G.2.1.1, 670, .inl w))]) F (c_X7_delayAt l G (w 9)) okS_X7_delayAt k_ml_X7_224 rfl rfl ⟨Nat.le_of_ble_eq_true rfl, Nat.le_of_ble_eq_true rfl⟩ hN hK hP hD hS hA [] [0, 1] [0, 1] (by decide) rfl rfl (by decide) (by decide) (by decide) rfl rfl rfl hl.1 (Nat.le_of_ble_eq_true rfl) dX7_periodNow_18 ⟨Nat.le_refl _, Nat.le_refl _⟩ (fun H locs hP hD hS => ?_)
    refine lv_sipush (v := 640) hx hb dX7_periodNow_21 (by decide) ?_
    refine lv_idiv hx hb dX7_periodNow_24 (by decide) ?_
    refine lv_goto (tgt := 35) hx hb dX7_periodNow_25 (by decide) ?_
    have ef : (f_X7_periodNow w) = ((f_X7_delayAt (w 9)) / 640) := (if_pos c_1)
    exact gRetI F hr hlocks hK hP hD hS (by rw [ef]) rfl (Nat.le_of_ble_eq_true rfl) (Nat.le_of_ble_eq_true rfl) dX7_periodNow_35
theorem okV_X7_periodNow : gOkV yX7_periodNow cX7_periodNow 1 (some .int) 0 := ⟨⟨k_im_X7_periodNow, k_se_X7_periodNow, k_in_X7, k_cd_X7_periodNow⟩, by decide, by decide, by decide +kernel⟩
def f_X7_period (w : Nat → Int32) : Int32 × Int32 :=
  ((f_X7_periodNow w), 0)
set_option maxRecDepth 100000 in
set_option maxHeartbeats 4000000 in
theorem c_X7_period (l : Launch) (G : gG) (m0 : Nat) (m1 : Nat) (m2 : Nat) (m3 : Nat) (m6 : Nat) (m13 : Nat) (m14 : Nat) (m17 : Nat) (m18 : Nat) (m19 : Nat) (rz : Int32) (hf : Int32) (hs : Int32) (len : Int32) (ec : Int32) (ep : Int32) (pos : Int32) (bg : Int32) (bad : Int32) (plc : Int32) (sta : Int32) (shm : Int32) (w : Nat → Int32) : gM l G yX7_period cX7_period 1 (some .int) { frames := 2, cells := 0, slots := 0, locals := 40 } [.ref m0] [(m0, .inr (10, [.int rz, .ref m1, .ref m2, .ref m3, .int hf, .int hs, .ref m6, .int len, .int ec, .int ep, .int pos, .int bg, .int bad, .ref m13, .ref m14, .int plc, .int sta, .ref m17, .ref m18, .ref m19, .int shm])), (m1, .inl (G.2.1.1, 670, .inl w))] (some (.int ((f_X7_period w).1))) [(m0, .inr (10, [.int ((f_X7_period w).2), .ref m1, .ref m2, .ref m3, .int hf, .int hs, .ref m6, .int len, .int ec, .int ep, .int pos, .int bg, .int bad, .ref m13, .ref m14, .int plc, .int sta, .ref m17, .ref m18, .ref m19, .int shm])), (m1, .inl (G.2.1.1, 670, .inl w))] 0 0 := by
  refine gBegin (by decide +kernel) (Nat.le_of_ble_eq_true rfl) (fun p e s m args below meth c A F hr hlocks hname hN hK hP hD hA hS ls hl => ?_)
  obtain ⟨hx, hb, hml, hown, hts⟩ := id F
  replace hP : va_P G.1 vwCl [(m0, .inr (10, [.int rz, .ref m1, .ref m2, .ref m3, .int hf, .int hs, .ref m6, .int len, .int ec, .int ep, .int pos, .int bg, .int bad, .ref m13, .ref m14, .int plc, .int sta, .ref m17, .ref m18, .ref m19, .int shm])), (m1, .inl (G.2.1.1, 670, .inl w))] s.heap := hP
  replace hl : lv_has ls 1 [(0, .ref m0)] := hl
  refine lv_aload_n hx hb dX7_period_0 rfl (lv_at hl 0 rfl) ?_
  refine lv_iconst (v := 0) hx hb dX7_period_1 (by decide) ?_
  refine va_put (D := G.1) (ci := 10) (v := .int 0) (ty := .int) (C := RX7) (T := TX7) (N := 21) hx hb hts in_X7 tyX7 tyX7_ok nmX7 hown hK hP hD hS 0 rfl rfl 0 (by decide) (hts _ k_fl_X7_76) (fun _ h9 => h9) rfl (by decide +kernel) rfl rfl (Nat.le_of_ble_eq_true rfl) dX7_period_2 (fun H locs hP hD hS => ?_)
  replace hP : va_P G.1 vwCl [(m0, .inr (10, [.int 0, .ref m1, .ref m2, .ref m3, .int hf, .int hs, .ref m6, .int len, .int ec, .int ep, .int pos, .int bg, .int bad, .ref m13, .ref m14, .int plc, .int sta, .ref m17, .ref m18, .ref m19, .int shm])), (m1, .inl (G.2.1.1, 670, .inl w))] H := hP
  replace hD : va_D A [(m0, .inr (10, [.int 0, .ref m1, .ref m2, .ref m3, .int hf, .int hs, .ref m6, .int len, .int ec, .int ep, .int pos, .int bg, .int bad, .ref m13, .ref m14, .int plc, .int sta, .ref m17, .ref m18, .ref m19, .int shm])), (m1, .inl (G.2.1.1, 670, .inl w))] := hD
  refine lv_aload_n hx hb dX7_period_5 rfl (lv_at hl 0 rfl) ?_
  refine gV (As := []) (rest := []) (wr := []) (ws' := [(m0, .inr (10, [.int 0, .ref m1, .ref m2, .ref m3, .int hf, .int hs, .ref m6, .int len, .int ec, .int ep, .int pos, .int bg, .int bad, .ref m13, .ref m14, .int plc, .int sta, .ref m17, .ref m18, .ref m19, .int shm])), (m1, .inl (G.2.1.1, 670, .inl w))]) F (c_X7_periodNow l G m0 m1 m2 m3 m6 m13 m14 m17 m18 m19 0 hf hs len ec ep pos bg bad plc sta shm w) okV_X7_periodNow k_ml_X7_227 rfl rfl ⟨Nat.le_of_ble_eq_true rfl, Nat.le_of_ble_eq_true rfl⟩ hN hK hP hD hS hA [0, 1] [] [0, 1] (by decide) rfl rfl (by decide) (by decide) (by decide) rfl (q0 := 0) rfl rfl rfl rfl hl.1 (Nat.le_of_ble_eq_true rfl) dX7_period_6 ⟨Nat.le_refl _, Nat.le_refl _⟩ (fun H locs hP hD hS => ?_)
  exact gRetI F hr hlocks hK hP hD hS rfl rfl (Nat.le_of_ble_eq_true rfl) (Nat.le_of_ble_eq_true rfl) dX7_period_9
theorem okV_X7_period : gOkV yX7_period cX7_period 1 (some .int) 0 := ⟨⟨k_im_X7_period, k_se_X7_period, k_in_X7, k_cd_X7_period⟩, by decide, by decide, by decide +kernel⟩
def f_X7_mismatchAt (w : Nat → Int32) (p0 : Int32) : Int32 :=
  ((f_X7_delayAt p0) - (640 * (f_X7_periodNow w)))
set_option maxRecDepth 100000 in
set_option maxHeartbeats 4000000 in
theorem c_X7_mismatchAt (l : Launch) (G : gG) (m0 : Nat) (m1 : Nat) (m2 : Nat) (m3 : Nat) (m6 : Nat) (m13 : Nat) (m14 : Nat) (m17 : Nat) (m18 : Nat) (m19 : Nat) (rz : Int32) (hf : Int32) (hs : Int32) (len : Int32) (ec : Int32) (ep : Int32) (pos : Int32) (bg : Int32) (bad : Int32) (plc : Int32) (sta : Int32) (shm : Int32) (w : Nat → Int32) (p0 : Int32) : gM l G yX7_mismatchAt cX7_mismatchAt 2 (some .int) { frames := 2, cells := 0, slots := 0, locals := 40 } [.ref m0, .int p0] [(m0, .inr (10, [.int rz, .ref m1, .ref m2, .ref m3, .int hf, .int hs, .ref m6, .int len, .int ec, .int ep, .int pos, .int bg, .int bad, .ref m13, .ref m14, .int plc, .int sta, .ref m17, .ref m18, .ref m19, .int shm])), (m1, .inl (G.2.1.1, 670, .inl w))] (some (.int (f_X7_mismatchAt w p0))) [(m0, .inr (10, [.int rz, .ref m1, .ref m2, .ref m3, .int hf, .int hs, .ref m6, .int len, .int ec, .int ep, .int pos, .int bg, .int bad, .ref m13, .ref m14, .int plc, .int sta, .ref m17, .ref m18, .ref m19, .int shm])), (m1, .inl (G.2.1.1, 670, .inl w))] 0 0 := by
  refine gBegin (by decide +kernel) (Nat.le_of_ble_eq_true rfl) (fun p e s m args below meth c A F hr hlocks hname hN hK hP hD hA hS ls hl => ?_)
  obtain ⟨hx, hb, hml, hown, hts⟩ := id F
  replace hP : va_P G.1 vwCl [(m0, .inr (10, [.int rz, .ref m1, .ref m2, .ref m3, .int hf, .int hs, .ref m6, .int len, .int ec, .int ep, .int pos, .int bg, .int bad, .ref m13, .ref m14, .int plc, .int sta, .ref m17, .ref m18, .ref m19, .int shm])), (m1, .inl (G.2.1.1, 670, .inl w))] s.heap := hP
  replace hl : lv_has ls 2 [(0, .ref m0), (1, .int p0)] := hl
  refine lv_iload_n hx hb dX7_mismatchAt_0 rfl (lv_at hl 1 rfl) ?_
  refine gS (As := [.int p0]) (rest := []) (wr := [(m0, .inr (10, [.int rz, .ref m1, .ref m2, .ref m3, .int hf, .int hs, .ref m6, .int len, .int ec, .int ep, .int pos, .int bg, .int bad, .ref m13, .ref m14, .int plc, .int sta, .ref m17, .ref m18, .ref m19, .int shm])), (m1, .inl (G.2.1.1, 670, .inl w))]) (ws' := [(m0, .inr (10, [.int rz, .ref m1, .ref m2, .ref m3, .int hf, .int hs, .ref m6, .int len, .int ec, .int ep, .int pos, .int bg, .int bad, .ref m13, .ref m14, .int plc, .int sta, .ref m17, .ref m18, .ref m19, .int shm])), (m1, .inl (G.2.1.1, 670, .inl w))]) F (c_X7_delayAt l G p0) okS_X7_delayAt k_ml_X7_224 rfl rfl ⟨Nat.le_of_ble_eq_true rfl, Nat.le_of_ble_eq_true rfl⟩ hN hK hP hD hS hA [] [0, 1] [0, 1] (by decide) rfl rfl (by decide) (by decide) (by decide) rfl rfl rfl hl.1 (Nat.le_of_ble_eq_true rfl) dX7_mismatchAt_1 ⟨Nat.le_refl _, Nat.le_refl _⟩ (fun H locs hP hD hS => ?_)
  refine lv_sipush (v := 640) hx hb dX7_mismatchAt_4 (by decide) ?_
  refine lv_aload_n hx hb dX7_mismatchAt_7 rfl (lv_at hl 0 rfl) ?_
  refine gV (As := []) (rest := [.int 640, .int (f_X7_delayAt p0)]) (wr := []) (ws' := [(m0, .inr (10, [.int rz, .ref m1, .ref m2, .ref m3, .int hf, .int hs, .ref m6, .int len, .int ec, .int ep, .int pos, .int bg, .int bad, .ref m13, .ref m14, .int plc, .int sta, .ref m17, .ref m18, .ref m19, .int shm])), (m1, .inl (G.2.1.1, 670, .inl w))]) F (c_X7_periodNow l G m0 m1 m2 m3 m6 m13 m14 m17 m18 m19 rz hf hs len ec ep pos bg bad plc sta shm w) okV_X7_periodNow k_ml_X7_227 rfl rfl ⟨Nat.le_of_ble_eq_true rfl, Nat.le_of_ble_eq_true rfl⟩ hN hK hP hD hS hA [0, 1] [] [0, 1] (by decide) rfl rfl (by decide) (by decide) (by decide) rfl (q0 := 0) rfl rfl rfl rfl hl.1 (Nat.le_of_ble_eq_true rfl) dX7_mismatchAt_8 ⟨Nat.le_refl _, Nat.le_refl _⟩ (fun H locs hP hD hS => ?_)
  refine lv_imul hx hb dX7_mismatchAt_11 ?_
  refine lv_isub hx hb dX7_mismatchAt_12 ?_
  exact gRetI F hr hlocks hK hP hD hS rfl rfl (Nat.le_of_ble_eq_true rfl) (Nat.le_of_ble_eq_true rfl) dX7_mismatchAt_13
theorem okV_X7_mismatchAt : gOkV yX7_mismatchAt cX7_mismatchAt 2 (some .int) 1 := ⟨⟨k_im_X7_mismatchAt, k_se_X7_mismatchAt, k_in_X7, k_cd_X7_mismatchAt⟩, by decide, by decide, by decide +kernel⟩
def f_X7_mismatch (w : Nat → Int32) (p0 : Int32) : Int32 × Int32 :=
  if (f_X7_isTank p0) = 0 then
    ((f_X7_fails 1).1, (f_X7_fails 1).2)
  else
    ((f_X7_mismatchAt w (w (Int32.toNatClampNeg (14 + p0)))), 0)
set_option maxRecDepth 100000 in
set_option maxHeartbeats 4000000 in
theorem c_X7_mismatch (l : Launch) (G : gG) (m0 : Nat) (m1 : Nat) (m2 : Nat) (m3 : Nat) (m6 : Nat) (m13 : Nat) (m14 : Nat) (m17 : Nat) (m18 : Nat) (m19 : Nat) (rz : Int32) (hf : Int32) (hs : Int32) (len : Int32) (ec : Int32) (ep : Int32) (pos : Int32) (bg : Int32) (bad : Int32) (plc : Int32) (sta : Int32) (shm : Int32) (w : Nat → Int32) (p0 : Int32) : gM l G yX7_mismatch cX7_mismatch 2 (some .int) { frames := 3, cells := 0, slots := 0, locals := 61 } [.ref m0, .int p0] [(m0, .inr (10, [.int rz, .ref m1, .ref m2, .ref m3, .int hf, .int hs, .ref m6, .int len, .int ec, .int ep, .int pos, .int bg, .int bad, .ref m13, .ref m14, .int plc, .int sta, .ref m17, .ref m18, .ref m19, .int shm])), (m1, .inl (G.2.1.1, 670, .inl w))] (some (.int ((f_X7_mismatch w p0).1))) [(m0, .inr (10, [.int ((f_X7_mismatch w p0).2), .ref m1, .ref m2, .ref m3, .int hf, .int hs, .ref m6, .int len, .int ec, .int ep, .int pos, .int bg, .int bad, .ref m13, .ref m14, .int plc, .int sta, .ref m17, .ref m18, .ref m19, .int shm])), (m1, .inl (G.2.1.1, 670, .inl w))] 0 0 := by
  refine gBegin (by decide +kernel) (Nat.le_of_ble_eq_true rfl) (fun p e s m args below meth c A F hr hlocks hname hN hK hP hD hA hS ls hl => ?_)
  obtain ⟨hx, hb, hml, hown, hts⟩ := id F
  replace hP : va_P G.1 vwCl [(m0, .inr (10, [.int rz, .ref m1, .ref m2, .ref m3, .int hf, .int hs, .ref m6, .int len, .int ec, .int ep, .int pos, .int bg, .int bad, .ref m13, .ref m14, .int plc, .int sta, .ref m17, .ref m18, .ref m19, .int shm])), (m1, .inl (G.2.1.1, 670, .inl w))] s.heap := hP
  replace hl : lv_has ls 2 [(0, .ref m0), (1, .int p0)] := hl
  refine lv_aload_n hx hb dX7_mismatch_0 rfl (lv_at hl 0 rfl) ?_
  refine lv_iconst (v := 0) hx hb dX7_mismatch_1 (by decide) ?_
  refine va_put (D := G.1) (ci := 10) (v := .int 0) (ty := .int) (C := RX7) (T := TX7) (N := 21) hx hb hts in_X7 tyX7 tyX7_ok nmX7 hown hK hP hD hS 0 rfl rfl 0 (by decide) (hts _ k_fl_X7_76) (fun _ h9 => h9) rfl (by decide +kernel) rfl rfl (Nat.le_of_ble_eq_true rfl) dX7_mismatch_2 (fun H locs hP hD hS => ?_)
  replace hP : va_P G.1 vwCl [(m0, .inr (10, [.int 0, .ref m1, .ref m2, .ref m3, .int hf, .int hs, .ref m6, .int len, .int ec, .int ep, .int pos, .int bg, .int bad, .ref m13, .ref m14, .int plc, .int sta, .ref m17, .ref m18, .ref m19, .int shm])), (m1, .inl (G.2.1.1, 670, .inl w))] H := hP
  replace hD : va_D A [(m0, .inr (10, [.int 0, .ref m1, .ref m2, .ref m3, .int hf, .int hs, .ref m6, .int len, .int ec, .int ep, .int pos, .int bg, .int bad, .ref m13, .ref m14, .int plc, .int sta, .ref m17, .ref m18, .ref m19, .int shm])), (m1, .inl (G.2.1.1, 670, .inl w))] := hD
  refine lv_iload_n hx hb dX7_mismatch_5 rfl (lv_at hl 1 rfl) ?_
  refine gS (As := [.int p0]) (rest := []) (wr := [(m0, .inr (10, [.int 0, .ref m1, .ref m2, .ref m3, .int hf, .int hs, .ref m6, .int len, .int ec, .int ep, .int pos, .int bg, .int bad, .ref m13, .ref m14, .int plc, .int sta, .ref m17, .ref m18, .ref m19, .int shm])), (m1, .inl (G.2.1.1, 670, .inl w))]) (ws' := [(m0, .inr (10, [.int 0, .ref m1, .ref m2, .ref m3, .int hf, .int hs, .ref m6, .int len, .int ec, .int ep, .int pos, .int bg, .int bad, .ref m13, .ref m14, .int plc, .int sta, .ref m17, .ref m18, .ref m19, .int shm])), (m1, .inl (G.2.1.1, 670, .inl w))]) F (c_X7_isTank l G p0) okS_X7_isTank k_ml_X7_85 rfl rfl ⟨Nat.le_of_ble_eq_true rfl, Nat.le_of_ble_eq_true rfl⟩ hN hK hP hD hS hA [] [0, 1] [0, 1] (by decide) rfl rfl (by decide) (by decide) (by decide) rfl rfl rfl hl.1 (Nat.le_of_ble_eq_true rfl) dX7_mismatch_6 ⟨Nat.le_refl _, Nat.le_refl _⟩ (fun H locs hP hD hS => ?_)
  refine lv_if_eq (tgt := 28) hx hb dX7_mismatch_9 (by decide) (fun c_1 => ?_) (fun c_1 => ?_)
  · skip
    refine lv_aload_n hx hb dX7_mismatch_28 rfl (lv_at hl 0 rfl) ?_
    refine lv_iconst (v := 1) hx hb dX7_mismatch_29 (by decide) ?_
    refine gV (As := [.int 1]) (rest := []) (wr := [(m1, .inl (G.2.1.1, 670, .inl w))]) (ws' := [(m0, .inr (10, [.int ((f_X7_fails 1).2), .ref m1, .ref m2, .ref m3, .int hf, .int hs, .ref m6, .int len, .int ec, .int ep, .int pos, .int bg, .int bad, .ref m13, .ref m14, .int plc, .int sta, .ref m17, .ref m18, .ref m19, .int shm])), (m1, .inl (G.2.1.1, 670, .inl w))]) F (c_X7_fails l G m0 m1 m2 m3 m6 m13 m14 m17 m18 m19 0 hf hs len ec ep pos bg bad plc sta shm 1) okV_X7_fails k_ml_X7_98 rfl rfl ⟨Nat.le_of_ble_eq_true rfl, Nat.le_of_ble_eq_true rfl⟩ hN hK hP hD hS hA [0] [1] [1, 0] (by decide) rfl rfl (by decide) (by decide) (by decide) rfl (q0 := 0) rfl rfl rfl rfl hl.1 (Nat.le_of_ble_eq_true rfl) dX7_mismatch_30 ⟨Nat.le_refl _, Nat.le_refl _⟩ (fun H locs hP hD hS => ?_)
    have ef : (f_X7_mismatch w p0) = ((f_X7_fails 1).1, (f_X7_fails 1).2) := (if_pos c_1)
    exact gRetI F hr hlocks hK hP hD hS (by rw [ef]) (by rw [ef]) (Nat.le_of_ble_eq_true rfl) (Nat.le_of_ble_eq_true rfl) dX7_mismatch_33
  · skip
    refine lv_aload_n hx hb dX7_mismatch_12 rfl (lv_at hl 0 rfl) ?_
    refine lv_aload_n hx hb dX7_mismatch_13 rfl (lv_at hl 0 rfl) ?_
    refine va_get (D := G.1) (ci := 10) (v := .ref m1) (C := RX7) (T := TX7) (N := 21) hx hb hts in_X7 hown hK hP 0 rfl rfl 1 (by decide) (hts _ k_fl_X7_7) (fun _ h9 => h9) rfl dX7_mismatch_14 ?_
    refine lv_bipush (v := 14) hx hb dX7_mismatch_17 (by decide) ?_
    refine lv_iload_n hx hb dX7_mismatch_19 rfl (lv_at hl 1 rfl) ?_
    refine lv_iadd hx hb dX7_mismatch_20 ?_
    refine va_iald hx hb hK hP 1 0 rfl rfl (by have qc_1 := tank_of c_1; have z0 : (14 : Int32).toInt = 14 := (by decide); (try have z2 := gI_add (x := 14) (y := p0) (by omega) (by omega)); (try rw [vp_in_iff]); omega) dX7_mismatch_21 ?_
    refine gV (As := [.int (w (Int32.toNatClampNeg (14 + p0)))]) (rest := []) (wr := []) (ws' := [(m0, .inr (10, [.int 0, .ref m1, .ref m2, .ref m3, .int hf, .int hs, .ref m6, .int len, .int ec, .int ep, .int pos, .int bg, .int bad, .ref m13, .ref m14, .int plc, .int sta, .ref m17, .ref m18, .ref m19, .int shm])), (m1, .inl (G.2.1.1, 670, .inl w))]) F (c_X7_mismatchAt l G m0 m1 m2 m3 m6 m13 m14 m17 m18 m19 0 hf hs len ec ep pos bg bad plc sta shm w (w (Int32.toNatClampNeg (14 + p0)))) okV_X7_mismatchAt k_ml_X7_230 rfl rfl ⟨Nat.le_of_ble_eq_true rfl, Nat.le_of_ble_eq_true rfl⟩ hN hK hP hD hS hA [0, 1] [] [0, 1] (by decide) rfl rfl (by decide) (by decide) (by decide) rfl (q0 := 0) rfl rfl rfl rfl hl.1 (Nat.le_of_ble_eq_true rfl) dX7_mismatch_22 ⟨Nat.le_refl _, Nat.le_refl _⟩ (fun H locs hP hD hS => ?_)
    refine lv_goto (tgt := 33) hx hb dX7_mismatch_25 (by decide) ?_
    have ef : (f_X7_mismatch w p0) = ((f_X7_mismatchAt w (w (Int32.toNatClampNeg (14 + p0)))), 0) := (if_neg c_1)
    exact gRetI F hr hlocks hK hP hD hS (by rw [ef]) (by rw [ef]) (Nat.le_of_ble_eq_true rfl) (Nat.le_of_ble_eq_true rfl) dX7_mismatch_33
theorem okV_X7_mismatch : gOkV yX7_mismatch cX7_mismatch 2 (some .int) 1 := ⟨⟨k_im_X7_mismatch, k_se_X7_mismatch, k_in_X7, k_cd_X7_mismatch⟩, by decide, by decide, by decide +kernel⟩
def f_X7_isSafe (w : Nat → Int32) (p0 : Int32) : Int32 :=
  if ((f_X7_periodNow w) / 4) < (f_X7_distance (f_X7_mismatchAt w p0)) then
    0
  else
    1
set_option maxRecDepth 100000 in
set_option maxHeartbeats 4000000 in
theorem c_X7_isSafe (l : Launch) (G : gG) (m0 : Nat) (m1 : Nat) (m2 : Nat) (m3 : Nat) (m6 : Nat) (m13 : Nat) (m14 : Nat) (m17 : Nat) (m18 : Nat) (m19 : Nat) (rz : Int32) (hf : Int32) (hs : Int32) (len : Int32) (ec : Int32) (ep : Int32) (pos : Int32) (bg : Int32) (bad : Int32) (plc : Int32) (sta : Int32) (shm : Int32) (w : Nat → Int32) (p0 : Int32) : gM l G yX7_isSafe cX7_isSafe 2 (some .boolean) { frames := 3, cells := 0, slots := 0, locals := 61 } [.ref m0, .int p0] [(m0, .inr (10, [.int rz, .ref m1, .ref m2, .ref m3, .int hf, .int hs, .ref m6, .int len, .int ec, .int ep, .int pos, .int bg, .int bad, .ref m13, .ref m14, .int plc, .int sta, .ref m17, .ref m18, .ref m19, .int shm])), (m1, .inl (G.2.1.1, 670, .inl w))] (some (.int (f_X7_isSafe w p0))) [(m0, .inr (10, [.int rz, .ref m1, .ref m2, .ref m3, .int hf, .int hs, .ref m6, .int len, .int ec, .int ep, .int pos, .int bg, .int bad, .ref m13, .ref m14, .int plc, .int sta, .ref m17, .ref m18, .ref m19, .int shm])), (m1, .inl (G.2.1.1, 670, .inl w))] 0 0 := by
  refine gBegin (by decide +kernel) (Nat.le_of_ble_eq_true rfl) (fun p e s m args below meth c A F hr hlocks hname hN hK hP hD hA hS ls hl => ?_)
  obtain ⟨hx, hb, hml, hown, hts⟩ := id F
  replace hP : va_P G.1 vwCl [(m0, .inr (10, [.int rz, .ref m1, .ref m2, .ref m3, .int hf, .int hs, .ref m6, .int len, .int ec, .int ep, .int pos, .int bg, .int bad, .ref m13, .ref m14, .int plc, .int sta, .ref m17, .ref m18, .ref m19, .int shm])), (m1, .inl (G.2.1.1, 670, .inl w))] s.heap := hP
  replace hl : lv_has ls 2 [(0, .ref m0), (1, .int p0)] := hl
  refine lv_aload_n hx hb dX7_isSafe_0 rfl (lv_at hl 0 rfl) ?_
  refine lv_iload_n hx hb dX7_isSafe_1 rfl (lv_at hl 1 rfl) ?_
  refine gV (As := [.int p0]) (rest := []) (wr := []) (ws' := [(m0, .inr (10, [.int rz, .ref m1, .ref m2, .ref m3, .int hf, .int hs, .ref m6, .int len, .int ec, .int ep, .int pos, .int bg, .int bad, .ref m13, .ref m14, .int plc, .int sta, .ref m17, .ref m18, .ref m19, .int shm])), (m1, .inl (G.2.1.1, 670, .inl w))]) F (c_X7_mismatchAt l G m0 m1 m2 m3 m6 m13 m14 m17 m18 m19 rz hf hs len ec ep pos bg bad plc sta shm w p0) okV_X7_mismatchAt k_ml_X7_230 rfl rfl ⟨Nat.le_of_ble_eq_true rfl, Nat.le_of_ble_eq_true rfl⟩ hN hK hP hD hS hA [0, 1] [] [0, 1] (by decide) rfl rfl (by decide) (by decide) (by decide) rfl (q0 := 0) rfl rfl rfl rfl hl.1 (Nat.le_of_ble_eq_true rfl) dX7_isSafe_2 ⟨Nat.le_refl _, Nat.le_refl _⟩ (fun H locs hP hD hS => ?_)
  refine gS (As := [.int (f_X7_mismatchAt w p0)]) (rest := []) (wr := [(m0, .inr (10, [.int rz, .ref m1, .ref m2, .ref m3, .int hf, .int hs, .ref m6, .int len, .int ec, .int ep, .int pos, .int bg, .int bad, .ref m13, .ref m14, .int plc, .int sta, .ref m17, .ref m18, .ref m19, .int shm])), (m1, .inl (G.2.1.1, 670, .inl w))]) (ws' := [(m0, .inr (10, [.int rz, .ref m1, .ref m2, .ref m3, .int hf, .int hs, .ref m6, .int len, .int ec, .int ep, .int pos, .int bg, .int bad, .ref m13, .ref m14, .int plc, .int sta, .ref m17, .ref m18, .ref m19, .int shm])), (m1, .inl (G.2.1.1, 670, .inl w))]) F (c_X7_distance l G (f_X7_mismatchAt w p0)) okS_X7_distance k_ml_X7_233 rfl rfl ⟨Nat.le_of_ble_eq_true rfl, Nat.le_of_ble_eq_true rfl⟩ hN hK hP hD hS hA [] [0, 1] [0, 1] (by decide) rfl rfl (by decide) (by decide) (by decide) rfl rfl rfl hl.1 (Nat.le_of_ble_eq_true rfl) dX7_isSafe_5 ⟨Nat.le_refl _, Nat.le_refl _⟩ (fun H locs hP hD hS => ?_)
  refine lv_aload_n hx hb dX7_isSafe_8 rfl (lv_at hl 0 rfl) ?_
  refine gV (As := []) (rest := [.int (f_X7_distance (f_X7_mismatchAt w p0))]) (wr := []) (ws' := [(m0, .inr (10, [.int rz, .ref m1, .ref m2, .ref m3, .int hf, .int hs, .ref m6, .int len, .int ec, .int ep, .int pos, .int bg, .int bad, .ref m13, .ref m14, .int plc, .int sta, .ref m17, .ref m18, .ref m19, .int shm])), (m1, .inl (G.2.1.1, 670, .inl w))]) F (c_X7_periodNow l G m0 m1 m2 m3 m6 m13 m14 m17 m18 m19 rz hf hs len ec ep pos bg bad plc sta shm w) okV_X7_periodNow k_ml_X7_227 rfl rfl ⟨Nat.le_of_ble_eq_true rfl, Nat.le_of_ble_eq_true rfl⟩ hN hK hP hD hS hA [0, 1] [] [0, 1] (by decide) rfl rfl (by decide) (by decide) (by decide) rfl (q0 := 0) rfl rfl rfl rfl hl.1 (Nat.le_of_ble_eq_true rfl) dX7_isSafe_9 ⟨Nat.le_refl _, Nat.le_refl _⟩ (fun H locs hP hD hS => ?_)
  refine lv_iconst (v := 4) hx hb dX7_isSafe_12 (by decide) ?_
  refine lv_idiv hx hb dX7_isSafe_13 (by decide) ?_
  refine lv_icmp_gt (tgt := 21) hx hb dX7_isSafe_14 (by decide) (fun c_1 => ?_) (fun c_1 => ?_)
  · skip
    refine lv_iconst (v := 0) hx hb dX7_isSafe_21 (by decide) ?_
    have ef : (f_X7_isSafe w p0) = 0 := (if_pos c_1)
    exact gRetZ F hr hlocks hK hP hD hS rfl (by rw [ef]) rfl (Nat.le_of_ble_eq_true rfl) (Nat.le_of_ble_eq_true rfl) dX7_isSafe_22
  · skip
    refine lv_iconst (v := 1) hx hb dX7_isSafe_17 (by decide) ?_
    refine lv_goto (tgt := 22) hx hb dX7_isSafe_18 (by decide) ?_
    have ef : (f_X7_isSafe w p0) = 1 := (if_neg c_1)
    exact gRetZ F hr hlocks hK hP hD hS rfl (by rw [ef]) rfl (Nat.le_of_ble_eq_true rfl) (Nat.le_of_ble_eq_true rfl) dX7_isSafe_22
theorem okV_X7_isSafe : gOkV yX7_isSafe cX7_isSafe 2 (some .boolean) 1 := ⟨⟨k_im_X7_isSafe, k_se_X7_isSafe, k_in_X7, k_cd_X7_isSafe⟩, by decide, by decide, by decide +kernel⟩
def wl_X7_leastSafeTemperature (w : Nat → Int32) : Nat → Nat → Int32 × Int32
  | 0, _ =>
    ((-1), 0)
  | n + 1, k =>
    if (f_X7_isSafe w (nI k)) = 0 then
      wl_X7_leastSafeTemperature w n (k + 1)
    else
      ((nI k), 0)
def f_X7_leastSafeTemperature (w : Nat → Int32) : Int32 × Int32 :=
  (wl_X7_leastSafeTemperature w 1001 0)
set_option maxRecDepth 100000 in
set_option maxHeartbeats 4000000 in
theorem c_X7_leastSafeTemperature (l : Launch) (G : gG) (m0 : Nat) (m1 : Nat) (m2 : Nat) (m3 : Nat) (m6 : Nat) (m13 : Nat) (m14 : Nat) (m17 : Nat) (m18 : Nat) (m19 : Nat) (rz : Int32) (hf : Int32) (hs : Int32) (len : Int32) (ec : Int32) (ep : Int32) (pos : Int32) (bg : Int32) (bad : Int32) (plc : Int32) (sta : Int32) (shm : Int32) (w : Nat → Int32) : gM l G yX7_leastSafeTemperature cX7_leastSafeTemperature 2 (some .int) { frames := 4, cells := 0, slots := 0, locals := 82 } [.ref m0] [(m0, .inr (10, [.int rz, .ref m1, .ref m2, .ref m3, .int hf, .int hs, .ref m6, .int len, .int ec, .int ep, .int pos, .int bg, .int bad, .ref m13, .ref m14, .int plc, .int sta, .ref m17, .ref m18, .ref m19, .int shm])), (m1, .inl (G.2.1.1, 670, .inl w))] (some (.int ((f_X7_leastSafeTemperature w).1))) [(m0, .inr (10, [.int ((f_X7_leastSafeTemperature w).2), .ref m1, .ref m2, .ref m3, .int hf, .int hs, .ref m6, .int len, .int ec, .int ep, .int pos, .int bg, .int bad, .ref m13, .ref m14, .int plc, .int sta, .ref m17, .ref m18, .ref m19, .int shm])), (m1, .inl (G.2.1.1, 670, .inl w))] 0 0 := by
  refine gBegin (by decide +kernel) (Nat.le_of_ble_eq_true rfl) (fun p e s m args below meth c A F hr hlocks hname hN hK hP hD hA hS ls hl => ?_)
  obtain ⟨hx, hb, hml, hown, hts⟩ := id F
  replace hP : va_P G.1 vwCl [(m0, .inr (10, [.int rz, .ref m1, .ref m2, .ref m3, .int hf, .int hs, .ref m6, .int len, .int ec, .int ep, .int pos, .int bg, .int bad, .ref m13, .ref m14, .int plc, .int sta, .ref m17, .ref m18, .ref m19, .int shm])), (m1, .inl (G.2.1.1, 670, .inl w))] s.heap := hP
  replace hl : lv_has ls 2 [(0, .ref m0)] := hl
  refine lv_aload_n hx hb dX7_leastSafeTemperature_0 rfl (lv_at hl 0 rfl) ?_
  refine lv_iconst (v := 0) hx hb dX7_leastSafeTemperature_1 (by decide) ?_
  refine va_put (D := G.1) (ci := 10) (v := .int 0) (ty := .int) (C := RX7) (T := TX7) (N := 21) hx hb hts in_X7 tyX7 tyX7_ok nmX7 hown hK hP hD hS 0 rfl rfl 0 (by decide) (hts _ k_fl_X7_76) (fun _ h9 => h9) rfl (by decide +kernel) rfl rfl (Nat.le_of_ble_eq_true rfl) dX7_leastSafeTemperature_2 (fun H locs hP hD hS => ?_)
  replace hP : va_P G.1 vwCl [(m0, .inr (10, [.int 0, .ref m1, .ref m2, .ref m3, .int hf, .int hs, .ref m6, .int len, .int ec, .int ep, .int pos, .int bg, .int bad, .ref m13, .ref m14, .int plc, .int sta, .ref m17, .ref m18, .ref m19, .int shm])), (m1, .inl (G.2.1.1, 670, .inl w))] H := hP
  replace hD : va_D A [(m0, .inr (10, [.int 0, .ref m1, .ref m2, .ref m3, .int hf, .int hs, .ref m6, .int len, .int ec, .int ep, .int pos, .int bg, .int bad, .ref m13, .ref m14, .int plc, .int sta, .ref m17, .ref m18, .ref m19, .int shm])), (m1, .inl (G.2.1.1, 670, .inl w))] := hD
  refine lv_iconst (v := 0) hx hb dX7_leastSafeTemperature_5 (by decide) ?_
  refine lv_istore_n (lv' := [(1, .int 0), (0, .ref m0)]) hx hb dX7_leastSafeTemperature_6 rfl hl (by decide) rfl (fun ls hl => ?_)
  have loop_7 : ∀ (fu k : Nat), k + fu = 1001 → (f_X7_leastSafeTemperature w) = wl_X7_leastSafeTemperature w fu k → ∀ (H : Heap) (locs : List Loc), va_P G.1 vwCl [(m0, .inr (10, [.int 0, .ref m1, .ref m2, .ref m3, .int hf, .int hs, .ref m6, .int len, .int ec, .int ep, .int pos, .int bg, .int bad, .ref m13, .ref m14, .int plc, .int sta, .ref m17, .ref m18, .ref m19, .int shm])), (m1, .inl (G.2.1.1, 670, .inl w))] H → va_D A [(m0, .inr (10, [.int 0, .ref m1, .ref m2, .ref m3, .int hf, .int hs, .ref m6, .int len, .int ec, .int ep, .int pos, .int bg, .int bad, .ref m13, .ref m14, .int plc, .int sta, .ref m17, .ref m18, .ref m19, .int shm])), (m1, .inl (G.2.1.1, 670, .inl w))] → va_S A s.heap H locs → ∀ ls : Array Slot, lv_has ls 2 [(1, .int (nI k)), (0, .ref m0)] → W p l e { frames := 4, cells := 0, slots := 0, locals := 82 } s m args below meth c H locs 0 0 (MQ below (gQ G (some (.int ((f_X7_leastSafeTemperature w).1))) [(m0, .inr (10, [.int ((f_X7_leastSafeTemperature w).2), .ref m1, .ref m2, .ref m3, .int hf, .int hs, .ref m6, .int len, .int ec, .int ep, .int pos, .int bg, .int bad, .ref m13, .ref m14, .int plc, .int sta, .ref m17, .ref m18, .ref m19, .int shm])), (m1, .inl (G.2.1.1, 670, .inl w))] A) args s 0 0 A) (F0 m 7 ls []) := by
    intro fu
    induction fu with
    | zero =>
      intro k hk hO H locs hP hD hS ls hl
      have ek : 1001 = k := by omega
      subst ek
      refine lv_iload_n hx hb dX7_leastSafeTemperature_7 rfl (lv_at hl 0 rfl) ?_
      refine lv_sipush (v := 1000) hx hb dX7_leastSafeTemperature_8 (by decide) ?_
      refine lv_icmp_gt (tgt := 30) hx hb dX7_leastSafeTemperature_11 (by decide) (fun c_1 => ?_) (fun c_1 => ?_)
      · skip
        refine lv_iconst (v := (-1)) hx hb dX7_leastSafeTemperature_30 (by decide) ?_
        have ef : (f_X7_leastSafeTemperature w) = ((-1), 0) := hO
        exact gRetI F hr hlocks hK hP hD hS (by rw [ef]) (by rw [ef]) (Nat.le_of_ble_eq_true rfl) (Nat.le_of_ble_eq_true rfl) dX7_leastSafeTemperature_31
      · exact absurd (by decide : (1000 : Int32) < nI 1001) c_1
    | succ fu ih =>
      intro k hk hO H locs hP hD hS ls hl
      have hlt_k : k < 1001 := by omega
      refine lv_iload_n hx hb dX7_leastSafeTemperature_7 rfl (lv_at hl 0 rfl) ?_
      refine lv_sipush (v := 1000) hx hb dX7_leastSafeTemperature_8 (by decide) ?_
      refine lv_icmp_gt (tgt := 30) hx hb dX7_leastSafeTemperature_11 (by decide) (fun c_2 => ?_) (fun c_2 => ?_)
      · exact absurd c_2 (nI_nlt (a := 1000) (b := k) (by omega) (by decide))
      · skip
        refine lv_aload_n hx hb dX7_leastSafeTemperature_14 rfl (lv_at hl 1 rfl) ?_
        refine lv_iload_n hx hb dX7_leastSafeTemperature_15 rfl (lv_at hl 0 rfl) ?_
        refine gV (As := [.int (nI k)]) (rest := []) (wr := []) (ws' := [(m0, .inr (10, [.int 0, .ref m1, .ref m2, .ref m3, .int hf, .int hs, .ref m6, .int len, .int ec, .int ep, .int pos, .int bg, .int bad, .ref m13, .ref m14, .int plc, .int sta, .ref m17, .ref m18, .ref m19, .int shm])), (m1, .inl (G.2.1.1, 670, .inl w))]) F (c_X7_isSafe l G m0 m1 m2 m3 m6 m13 m14 m17 m18 m19 0 hf hs len ec ep pos bg bad plc sta shm w (nI k)) okV_X7_isSafe k_ml_X7_236 rfl rfl ⟨Nat.le_of_ble_eq_true rfl, Nat.le_of_ble_eq_true rfl⟩ hN hK hP hD hS hA [0, 1] [] [0, 1] (by decide) rfl rfl (by decide) (by decide) (by decide) rfl (q0 := 0) rfl rfl rfl rfl hl.1 (Nat.le_of_ble_eq_true rfl) dX7_leastSafeTemperature_16 ⟨Nat.le_refl _, Nat.le_refl _⟩ (fun H locs hP hD hS => ?_)
        refine lv_if_eq (tgt := 24) hx hb dX7_leastSafeTemperature_19 (by decide) (fun c_3 => ?_) (fun c_3 => ?_)
        · skip
          refine lv_iinc (v := (nI (k + 1))) (lv' := [(1, .int (nI (k + 1))), (0, .ref m0)]) hx hb dX7_leastSafeTemperature_24 hl (k := 0) rfl (nI_1 k) (by decide) rfl (fun ls hl => ?_)
          refine lv_goto (tgt := 7) hx hb dX7_leastSafeTemperature_27 (by decide) ?_
          exact ih (k + 1) (by omega) (hO.trans (if_pos c_3)) _ _ hP hD hS ls (lv_sub hl [0, 1] rfl)
        · skip
          refine lv_iload_n hx hb dX7_leastSafeTemperature_22 rfl (lv_at hl 0 rfl) ?_
          have ef : (f_X7_leastSafeTemperature w) = ((nI k), 0) := (hO.trans (if_neg c_3))
          exact gRetI F hr hlocks hK hP hD hS (by rw [ef]) (by rw [ef]) (Nat.le_of_ble_eq_true rfl) (Nat.le_of_ble_eq_true rfl) dX7_leastSafeTemperature_23
  exact loop_7 1001 0 (by omega) (rfl) _ _ hP hD hS ls (lv_sub hl [0, 1] rfl)
theorem okV_X7_leastSafeTemperature : gOkV yX7_leastSafeTemperature cX7_leastSafeTemperature 2 (some .int) 0 := ⟨⟨k_im_X7_leastSafeTemperature, k_se_X7_leastSafeTemperature, k_in_X7, k_cd_X7_leastSafeTemperature⟩, by decide, by decide, by decide +kernel⟩
def wl_X7_greatestSafeTemperature (w : Nat → Int32) : Nat → Nat → Int32 × Int32
  | 0, _ =>
    ((-1), 0)
  | n + 1, k =>
    if (f_X7_isSafe w (1000 - (nI k))) = 0 then
      wl_X7_greatestSafeTemperature w n (k + 1)
    else
      ((1000 - (nI k)), 0)
def f_X7_greatestSafeTemperature (w : Nat → Int32) : Int32 × Int32 :=
  (wl_X7_greatestSafeTemperature w 1001 0)
set_option maxRecDepth 100000 in
set_option maxHeartbeats 4000000 in
theorem c_X7_greatestSafeTemperature (l : Launch) (G : gG) (m0 : Nat) (m1 : Nat) (m2 : Nat) (m3 : Nat) (m6 : Nat) (m13 : Nat) (m14 : Nat) (m17 : Nat) (m18 : Nat) (m19 : Nat) (rz : Int32) (hf : Int32) (hs : Int32) (len : Int32) (ec : Int32) (ep : Int32) (pos : Int32) (bg : Int32) (bad : Int32) (plc : Int32) (sta : Int32) (shm : Int32) (w : Nat → Int32) : gM l G yX7_greatestSafeTemperature cX7_greatestSafeTemperature 2 (some .int) { frames := 4, cells := 0, slots := 0, locals := 82 } [.ref m0] [(m0, .inr (10, [.int rz, .ref m1, .ref m2, .ref m3, .int hf, .int hs, .ref m6, .int len, .int ec, .int ep, .int pos, .int bg, .int bad, .ref m13, .ref m14, .int plc, .int sta, .ref m17, .ref m18, .ref m19, .int shm])), (m1, .inl (G.2.1.1, 670, .inl w))] (some (.int ((f_X7_greatestSafeTemperature w).1))) [(m0, .inr (10, [.int ((f_X7_greatestSafeTemperature w).2), .ref m1, .ref m2, .ref m3, .int hf, .int hs, .ref m6, .int len, .int ec, .int ep, .int pos, .int bg, .int bad, .ref m13, .ref m14, .int plc, .int sta, .ref m17, .ref m18, .ref m19, .int shm])), (m1, .inl (G.2.1.1, 670, .inl w))] 0 0 := by
  refine gBegin (by decide +kernel) (Nat.le_of_ble_eq_true rfl) (fun p e s m args below meth c A F hr hlocks hname hN hK hP hD hA hS ls hl => ?_)
  obtain ⟨hx, hb, hml, hown, hts⟩ := id F
  replace hP : va_P G.1 vwCl [(m0, .inr (10, [.int rz, .ref m1, .ref m2, .ref m3, .int hf, .int hs, .ref m6, .int len, .int ec, .int ep, .int pos, .int bg, .int bad, .ref m13, .ref m14, .int plc, .int sta, .ref m17, .ref m18, .ref m19, .int shm])), (m1, .inl (G.2.1.1, 670, .inl w))] s.heap := hP
  replace hl : lv_has ls 2 [(0, .ref m0)] := hl
  refine lv_aload_n hx hb dX7_greatestSafeTemperature_0 rfl (lv_at hl 0 rfl) ?_
  refine lv_iconst (v := 0) hx hb dX7_greatestSafeTemperature_1 (by decide) ?_
  refine va_put (D := G.1) (ci := 10) (v := .int 0) (ty := .int) (C := RX7) (T := TX7) (N := 21) hx hb hts in_X7 tyX7 tyX7_ok nmX7 hown hK hP hD hS 0 rfl rfl 0 (by decide) (hts _ k_fl_X7_76) (fun _ h9 => h9) rfl (by decide +kernel) rfl rfl (Nat.le_of_ble_eq_true rfl) dX7_greatestSafeTemperature_2 (fun H locs hP hD hS => ?_)
  replace hP : va_P G.1 vwCl [(m0, .inr (10, [.int 0, .ref m1, .ref m2, .ref m3, .int hf, .int hs, .ref m6, .int len, .int ec, .int ep, .int pos, .int bg, .int bad, .ref m13, .ref m14, .int plc, .int sta, .ref m17, .ref m18, .ref m19, .int shm])), (m1, .inl (G.2.1.1, 670, .inl w))] H := hP
  replace hD : va_D A [(m0, .inr (10, [.int 0, .ref m1, .ref m2, .ref m3, .int hf, .int hs, .ref m6, .int len, .int ec, .int ep, .int pos, .int bg, .int bad, .ref m13, .ref m14, .int plc, .int sta, .ref m17, .ref m18, .ref m19, .int shm])), (m1, .inl (G.2.1.1, 670, .inl w))] := hD
  refine lv_sipush (v := 1000) hx hb dX7_greatestSafeTemperature_5 (by decide) ?_
  refine lv_istore_n (lv' := [(1, .int 1000), (0, .ref m0)]) hx hb dX7_greatestSafeTemperature_8 rfl hl (by decide) rfl (fun ls hl => ?_)
  have loop_9 : ∀ (fu k : Nat), k + fu = 1001 → (f_X7_greatestSafeTemperature w) = wl_X7_greatestSafeTemperature w fu k → ∀ (H : Heap) (locs : List Loc), va_P G.1 vwCl [(m0, .inr (10, [.int 0, .ref m1, .ref m2, .ref m3, .int hf, .int hs, .ref m6, .int len, .int ec, .int ep, .int pos, .int bg, .int bad, .ref m13, .ref m14, .int plc, .int sta, .ref m17, .ref m18, .ref m19, .int shm])), (m1, .inl (G.2.1.1, 670, .inl w))] H → va_D A [(m0, .inr (10, [.int 0, .ref m1, .ref m2, .ref m3, .int hf, .int hs, .ref m6, .int len, .int ec, .int ep, .int pos, .int bg, .int bad, .ref m13, .ref m14, .int plc, .int sta, .ref m17, .ref m18, .ref m19, .int shm])), (m1, .inl (G.2.1.1, 670, .inl w))] → va_S A s.heap H locs → ∀ ls : Array Slot, lv_has ls 2 [(1, .int (1000 - (nI k))), (0, .ref m0)] → W p l e { frames := 4, cells := 0, slots := 0, locals := 82 } s m args below meth c H locs 0 0 (MQ below (gQ G (some (.int ((f_X7_greatestSafeTemperature w).1))) [(m0, .inr (10, [.int ((f_X7_greatestSafeTemperature w).2), .ref m1, .ref m2, .ref m3, .int hf, .int hs, .ref m6, .int len, .int ec, .int ep, .int pos, .int bg, .int bad, .ref m13, .ref m14, .int plc, .int sta, .ref m17, .ref m18, .ref m19, .int shm])), (m1, .inl (G.2.1.1, 670, .inl w))] A) args s 0 0 A) (F0 m 9 ls []) := by
    intro fu
    induction fu with
    | zero =>
      intro k hk hO H locs hP hD hS ls hl
      have ek : 1001 = k := by omega
      subst ek
      refine lv_iload_n hx hb dX7_greatestSafeTemperature_9 rfl (lv_at hl 0 rfl) ?_
      refine lv_if_lt (tgt := 29) hx hb dX7_greatestSafeTemperature_10 (by decide) (fun c_1 => ?_) (fun c_1 => ?_)
      · skip
        refine lv_iconst (v := (-1)) hx hb dX7_greatestSafeTemperature_29 (by decide) ?_
        have ef : (f_X7_greatestSafeTemperature w) = ((-1), 0) := hO
        exact gRetI F hr hlocks hK hP hD hS (by rw [ef]) (by rw [ef]) (Nat.le_of_ble_eq_true rfl) (Nat.le_of_ble_eq_true rfl) dX7_greatestSafeTemperature_30
      · exact absurd (by decide : (1000 : Int32) - nI 1001 < 0) c_1
    | succ fu ih =>
      intro k hk hO H locs hP hD hS ls hl
      have hlt_k : k < 1001 := by omega
      refine lv_iload_n hx hb dX7_greatestSafeTemperature_9 rfl (lv_at hl 0 rfl) ?_
      refine lv_if_lt (tgt := 29) hx hb dX7_greatestSafeTemperature_10 (by decide) (fun c_2 => ?_) (fun c_2 => ?_)
      · exact absurd c_2 (g1000 hlt_k)
      · skip
        refine lv_aload_n hx hb dX7_greatestSafeTemperature_13 rfl (lv_at hl 1 rfl) ?_
        refine lv_iload_n hx hb dX7_greatestSafeTemperature_14 rfl (lv_at hl 0 rfl) ?_
        refine gV (As := [.int (1000 - (nI k))]) (rest := []) (wr := []) (ws' := [(m0, .inr (10, [.int 0, .ref m1, .ref m2, .ref m3, .int hf, .int hs, .ref m6, .int len, .int ec, .int ep, .int pos, .int bg, .int bad, .ref m13, .ref m14, .int plc, .int sta, .ref m17, .ref m18, .ref m19, .int shm])), (m1, .inl (G.2.1.1, 670, .inl w))]) F (c_X7_isSafe l G m0 m1 m2 m3 m6 m13 m14 m17 m18 m19 0 hf hs len ec ep pos bg bad plc sta shm w (1000 - (nI k))) okV_X7_isSafe k_ml_X7_236 rfl rfl ⟨Nat.le_of_ble_eq_true rfl, Nat.le_of_ble_eq_true rfl⟩ hN hK hP hD hS hA [0, 1] [] [0, 1] (by decide) rfl rfl (by decide) (by decide) (by decide) rfl (q0 := 0) rfl rfl rfl rfl hl.1 (Nat.le_of_ble_eq_true rfl) dX7_greatestSafeTemperature_15 ⟨Nat.le_refl _, Nat.le_refl _⟩ (fun H locs hP hD hS => ?_)
        refine lv_if_eq (tgt := 23) hx hb dX7_greatestSafeTemperature_18 (by decide) (fun c_3 => ?_) (fun c_3 => ?_)
        · skip
          refine lv_iinc (v := (1000 - (nI (k + 1)))) (lv' := [(1, .int (1000 - (nI (k + 1)))), (0, .ref m0)]) hx hb dX7_greatestSafeTemperature_23 hl (k := 0) rfl (g1000s k) (by decide) rfl (fun ls hl => ?_)
          refine lv_goto (tgt := 9) hx hb dX7_greatestSafeTemperature_26 (by decide) ?_
          exact ih (k + 1) (by omega) (hO.trans (if_pos c_3)) _ _ hP hD hS ls (lv_sub hl [0, 1] rfl)
        · skip
          refine lv_iload_n hx hb dX7_greatestSafeTemperature_21 rfl (lv_at hl 0 rfl) ?_
          have ef : (f_X7_greatestSafeTemperature w) = ((1000 - (nI k)), 0) := (hO.trans (if_neg c_3))
          exact gRetI F hr hlocks hK hP hD hS (by rw [ef]) (by rw [ef]) (Nat.le_of_ble_eq_true rfl) (Nat.le_of_ble_eq_true rfl) dX7_greatestSafeTemperature_22
  exact loop_9 1001 0 (by omega) (rfl) _ _ hP hD hS ls (lv_sub hl [0, 1] rfl)
theorem okV_X7_greatestSafeTemperature : gOkV yX7_greatestSafeTemperature cX7_greatestSafeTemperature 2 (some .int) 0 := ⟨⟨k_im_X7_greatestSafeTemperature, k_se_X7_greatestSafeTemperature, k_in_X7, k_cd_X7_greatestSafeTemperature⟩, by decide, by decide, by decide +kernel⟩
def st_X7_areSafe_4 (w : Nat → Int32) (k : Nat) (v0_ : Int32) : Int32 :=
  if v0_ = 0 then
    0
  else
    if (f_X7_isSafe w (w (Int32.toNatClampNeg (14 + (nI k))))) = 0 then
      0
    else
      1
def it_X7_areSafe_4 (w : Nat → Int32) : Nat → Int32
  | 0 => 1
  | i + 1 => st_X7_areSafe_4 w i (it_X7_areSafe_4 w i)
def f_X7_areSafe (w : Nat → Int32) : Int32 :=
  (it_X7_areSafe_4 w 8)
theorem areSafe_01 (w : Nat → Int32) (n : Nat) : g01 (it_X7_areSafe_4 w n) := by
  cases n with
  | zero => exact g01_1
  | succ n =>
    show g01 (st_X7_areSafe_4 w n (it_X7_areSafe_4 w n))
    unfold st_X7_areSafe_4
    split
    · exact g01_0
    · split
      · exact g01_0
      · exact g01_1
set_option maxRecDepth 100000 in
set_option maxHeartbeats 4000000 in
theorem c_X7_areSafe (l : Launch) (G : gG) (m0 : Nat) (m1 : Nat) (m2 : Nat) (m3 : Nat) (m6 : Nat) (m13 : Nat) (m14 : Nat) (m17 : Nat) (m18 : Nat) (m19 : Nat) (rz : Int32) (hf : Int32) (hs : Int32) (len : Int32) (ec : Int32) (ep : Int32) (pos : Int32) (bg : Int32) (bad : Int32) (plc : Int32) (sta : Int32) (shm : Int32) (w : Nat → Int32) : gM l G yX7_areSafe cX7_areSafe 3 (some .boolean) { frames := 4, cells := 0, slots := 0, locals := 82 } [.ref m0] [(m0, .inr (10, [.int rz, .ref m1, .ref m2, .ref m3, .int hf, .int hs, .ref m6, .int len, .int ec, .int ep, .int pos, .int bg, .int bad, .ref m13, .ref m14, .int plc, .int sta, .ref m17, .ref m18, .ref m19, .int shm])), (m1, .inl (G.2.1.1, 670, .inl w))] (some (.int (f_X7_areSafe w))) [(m0, .inr (10, [.int rz, .ref m1, .ref m2, .ref m3, .int hf, .int hs, .ref m6, .int len, .int ec, .int ep, .int pos, .int bg, .int bad, .ref m13, .ref m14, .int plc, .int sta, .ref m17, .ref m18, .ref m19, .int shm])), (m1, .inl (G.2.1.1, 670, .inl w))] 0 0 := by
  refine gBegin (by decide +kernel) (Nat.le_of_ble_eq_true rfl) (fun p e s m args below meth c A F hr hlocks hname hN hK hP hD hA hS ls hl => ?_)
  obtain ⟨hx, hb, hml, hown, hts⟩ := id F
  replace hP : va_P G.1 vwCl [(m0, .inr (10, [.int rz, .ref m1, .ref m2, .ref m3, .int hf, .int hs, .ref m6, .int len, .int ec, .int ep, .int pos, .int bg, .int bad, .ref m13, .ref m14, .int plc, .int sta, .ref m17, .ref m18, .ref m19, .int shm])), (m1, .inl (G.2.1.1, 670, .inl w))] s.heap := hP
  replace hl : lv_has ls 3 [(0, .ref m0)] := hl
  refine lv_iconst (v := 1) hx hb dX7_areSafe_0 (by decide) ?_
  refine lv_istore_n (lv' := [(1, .int 1), (0, .ref m0)]) hx hb dX7_areSafe_1 rfl hl (by decide) rfl (fun ls hl => ?_)
  refine lv_iconst (v := 0) hx hb dX7_areSafe_2 (by decide) ?_
  refine lv_istore_n (lv' := [(2, .int 0), (1, .int 1), (0, .ref m0)]) hx hb dX7_areSafe_3 rfl hl (by decide) rfl (fun ls hl => ?_)
  have loop_4 : ∀ (fu k : Nat), k + fu = 8 → ∀ (H : Heap) (locs : List Loc), va_P G.1 vwCl [(m0, .inr (10, [.int rz, .ref m1, .ref m2, .ref m3, .int hf, .int hs, .ref m6, .int len, .int ec, .int ep, .int pos, .int bg, .int bad, .ref m13, .ref m14, .int plc, .int sta, .ref m17, .ref m18, .ref m19, .int shm])), (m1, .inl (G.2.1.1, 670, .inl w))] H → va_D A [(m0, .inr (10, [.int rz, .ref m1, .ref m2, .ref m3, .int hf, .int hs, .ref m6, .int len, .int ec, .int ep, .int pos, .int bg, .int bad, .ref m13, .ref m14, .int plc, .int sta, .ref m17, .ref m18, .ref m19, .int shm])), (m1, .inl (G.2.1.1, 670, .inl w))] → va_S A s.heap H locs → ∀ ls : Array Slot, lv_has ls 3 [(2, .int (nI k)), (1, .int (it_X7_areSafe_4 w k)), (0, .ref m0)] → W p l e { frames := 4, cells := 0, slots := 0, locals := 82 } s m args below meth c H locs 0 0 (MQ below (gQ G (some (.int (f_X7_areSafe w))) [(m0, .inr (10, [.int rz, .ref m1, .ref m2, .ref m3, .int hf, .int hs, .ref m6, .int len, .int ec, .int ep, .int pos, .int bg, .int bad, .ref m13, .ref m14, .int plc, .int sta, .ref m17, .ref m18, .ref m19, .int shm])), (m1, .inl (G.2.1.1, 670, .inl w))] A) args s 0 0 A) (F0 m 4 ls []) := by
    intro fu
    induction fu with
    | zero =>
      intro k hk H locs hP hD hS ls hl
      have ek : 8 = k := by omega
      subst ek
      replace hP : va_P G.1 vwCl [(m0, .inr (10, [.int rz, .ref m1, .ref m2, .ref m3, .int hf, .int hs, .ref m6, .int len, .int ec, .int ep, .int pos, .int bg, .int bad, .ref m13, .ref m14, .int plc, .int sta, .ref m17, .ref m18, .ref m19, .int shm])), (m1, .inl (G.2.1.1, 670, .inl w))] H := hP
      replace hD : va_D A [(m0, .inr (10, [.int rz, .ref m1, .ref m2, .ref m3, .int hf, .int hs, .ref m6, .int len, .int ec, .int ep, .int pos, .int bg, .int bad, .ref m13, .ref m14, .int plc, .int sta, .ref m17, .ref m18, .ref m19, .int shm])), (m1, .inl (G.2.1.1, 670, .inl w))] := hD
      replace hl : lv_has ls 3 [(2, .int (nI 8)), (1, .int (it_X7_areSafe_4 w 8)), (0, .ref m0)] := hl
      refine lv_iload_n hx hb dX7_areSafe_4 rfl (lv_at hl 0 rfl) ?_
      refine lv_bipush (v := 8) hx hb dX7_areSafe_5 (by decide) ?_
      refine lv_icmp_ge (tgt := 42) hx hb dX7_areSafe_7 (by decide) (fun c_1 => ?_) (fun c_1 => ?_)
      · skip
        refine lv_iload_n hx hb dX7_areSafe_42 rfl (lv_at hl 1 rfl) ?_
        exact gRetZ F hr hlocks hK hP hD hS (gNz (areSafe_01 w 8)) rfl rfl (Nat.le_of_ble_eq_true rfl) (Nat.le_of_ble_eq_true rfl) dX7_areSafe_43
      · exact absurd (Int32.le_refl _) c_1
    | succ fu ih =>
      intro k hk H locs hP hD hS ls hl
      have hlt_k : k < 8 := by omega
      refine lv_iload_n hx hb dX7_areSafe_4 rfl (lv_at hl 0 rfl) ?_
      refine lv_bipush (v := 8) hx hb dX7_areSafe_5 (by decide) ?_
      refine lv_icmp_ge (tgt := 42) hx hb dX7_areSafe_7 (by decide) (fun c_2 => ?_) (fun c_2 => ?_)
      · exact absurd c_2 (nI_ge hlt_k (by decide))
      · skip
        refine lv_iload_n hx hb dX7_areSafe_10 rfl (lv_at hl 1 rfl) ?_
        refine lv_if_eq (tgt := 34) hx hb dX7_areSafe_11 (by decide) (fun c_3 => ?_) (fun c_3 => ?_)
        · skip
          refine lv_iconst (v := 0) hx hb dX7_areSafe_34 (by decide) ?_
          refine lv_istore_n (lv' := [(1, .int 0), (2, .int (nI k)), (0, .ref m0)]) hx hb dX7_areSafe_35 rfl hl (by decide) rfl (fun ls hl => ?_)
          refine lv_iinc (v := (nI (k + 1))) (lv' := [(2, .int (nI (k + 1))), (1, .int 0), (0, .ref m0)]) hx hb dX7_areSafe_36 hl (k := 1) rfl (nI_1 k) (by decide) rfl (fun ls hl => ?_)
          refine lv_goto (tgt := 4) hx hb dX7_areSafe_39 (by decide) ?_
          have ek : (it_X7_areSafe_4 w (k + 1)) = 0 := (if_pos c_3)
          exact ih (k + 1) (by omega) _ _ hP hD hS ls (lv_sub hl [0, 1, 2] (by rw [ek]; rfl))
        · skip
          refine lv_aload_n hx hb dX7_areSafe_14 rfl (lv_at hl 2 rfl) ?_
          refine lv_aload_n hx hb dX7_areSafe_15 rfl (lv_at hl 2 rfl) ?_
          refine va_get (D := G.1) (ci := 10) (v := .ref m1) (C := RX7) (T := TX7) (N := 21) hx hb hts in_X7 hown hK hP 0 rfl rfl 1 (by decide) (hts _ k_fl_X7_7) (fun _ h9 => h9) rfl dX7_areSafe_16 ?_
          refine lv_bipush (v := 14) hx hb dX7_areSafe_19 (by decide) ?_
          refine lv_iload_n hx hb dX7_areSafe_21 rfl (lv_at hl 0 rfl) ?_
          refine lv_iadd hx hb dX7_areSafe_22 ?_
          refine va_iald hx hb hK hP 1 0 rfl rfl (by have z0 : (14 : Int32).toInt = 14 := (by decide); have z1 := nI_toInt (n := k) (by omega); (try have z2 := gI_add (x := 14) (y := (nI k)) (by omega) (by omega)); (try rw [vp_in_iff]); omega) dX7_areSafe_23 ?_
          refine gV (As := [.int (w (Int32.toNatClampNeg (14 + (nI k))))]) (rest := []) (wr := []) (ws' := [(m0, .inr (10, [.int rz, .ref m1, .ref m2, .ref m3, .int hf, .int hs, .ref m6, .int len, .int ec, .int ep, .int pos, .int bg, .int bad, .ref m13, .ref m14, .int plc, .int sta, .ref m17, .ref m18, .ref m19, .int shm])), (m1, .inl (G.2.1.1, 670, .inl w))]) F (c_X7_isSafe l G m0 m1 m2 m3 m6 m13 m14 m17 m18 m19 rz hf hs len ec ep pos bg bad plc sta shm w (w (Int32.toNatClampNeg (14 + (nI k))))) okV_X7_isSafe k_ml_X7_236 rfl rfl ⟨Nat.le_of_ble_eq_true rfl, Nat.le_of_ble_eq_true rfl⟩ hN hK hP hD hS hA [0, 1] [] [0, 1] (by decide) rfl rfl (by decide) (by decide) (by decide) rfl (q0 := 0) rfl rfl rfl rfl hl.1 (Nat.le_of_ble_eq_true rfl) dX7_areSafe_24 ⟨Nat.le_refl _, Nat.le_refl _⟩ (fun H locs hP hD hS => ?_)
          refine lv_if_eq (tgt := 34) hx hb dX7_areSafe_27 (by decide) (fun c_4 => ?_) (fun c_4 => ?_)
          · skip
            refine lv_iconst (v := 0) hx hb dX7_areSafe_34 (by decide) ?_
            refine lv_istore_n (lv' := [(1, .int 0), (2, .int (nI k)), (0, .ref m0)]) hx hb dX7_areSafe_35 rfl hl (by decide) rfl (fun ls hl => ?_)
            refine lv_iinc (v := (nI (k + 1))) (lv' := [(2, .int (nI (k + 1))), (1, .int 0), (0, .ref m0)]) hx hb dX7_areSafe_36 hl (k := 1) rfl (nI_1 k) (by decide) rfl (fun ls hl => ?_)
            refine lv_goto (tgt := 4) hx hb dX7_areSafe_39 (by decide) ?_
            have ek : (it_X7_areSafe_4 w (k + 1)) = 0 := ((if_neg c_3).trans (if_pos c_4))
            exact ih (k + 1) (by omega) _ _ hP hD hS ls (lv_sub hl [0, 1, 2] (by rw [ek]; rfl))
          · skip
            refine lv_iconst (v := 1) hx hb dX7_areSafe_30 (by decide) ?_
            refine lv_goto (tgt := 35) hx hb dX7_areSafe_31 (by decide) ?_
            refine lv_istore_n (lv' := [(1, .int 1), (2, .int (nI k)), (0, .ref m0)]) hx hb dX7_areSafe_35 rfl hl (by decide) rfl (fun ls hl => ?_)
            refine lv_iinc (v := (nI (k + 1))) (lv' := [(2, .int (nI (k + 1))), (1, .int 1), (0, .ref m0)]) hx hb dX7_areSafe_36 hl (k := 1) rfl (nI_1 k) (by decide) rfl (fun ls hl => ?_)
            refine lv_goto (tgt := 4) hx hb dX7_areSafe_39 (by decide) ?_
            have ek : (it_X7_areSafe_4 w (k + 1)) = 1 := ((if_neg c_3).trans (if_neg c_4))
            exact ih (k + 1) (by omega) _ _ hP hD hS ls (lv_sub hl [0, 1, 2] (by rw [ek]; rfl))
  exact loop_4 8 0 (by omega) _ _ hP hD hS ls (lv_sub hl [0, 1, 2] rfl)
theorem okV_X7_areSafe : gOkV yX7_areSafe cX7_areSafe 3 (some .boolean) 0 := ⟨⟨k_im_X7_areSafe, k_se_X7_areSafe, k_in_X7, k_cd_X7_areSafe⟩, by decide, by decide, by decide +kernel⟩
def st_X7_warms_2  (k : Nat) (v0_ : Nat → Int32) : (Nat → Int32) :=
  (upd v0_ (Int32.toNatClampNeg (14 + (nI k))) ((v0_ (Int32.toNatClampNeg (14 + (nI k)))) + (((v0_ 8) - (v0_ (Int32.toNatClampNeg (14 + (nI k))))) / 8)))
def it_X7_warms_2 (w : Nat → Int32) : Nat → (Nat → Int32)
  | 0 => w
  | i + 1 => st_X7_warms_2 i (it_X7_warms_2 w i)
def f_X7_warms (w : Nat → Int32) : (Nat → Int32) :=
  (upd (it_X7_warms_2 w 8) 9 (((it_X7_warms_2 w 8) 9) + ((((it_X7_warms_2 w 8) 8) - ((it_X7_warms_2 w 8) 9)) / 8)))
set_option maxRecDepth 100000 in
set_option maxHeartbeats 4000000 in
theorem c_X7_warms (l : Launch) (G : gG) (m0 : Nat) (m1 : Nat) (m2 : Nat) (m3 : Nat) (m6 : Nat) (m13 : Nat) (m14 : Nat) (m17 : Nat) (m18 : Nat) (m19 : Nat) (rz : Int32) (hf : Int32) (hs : Int32) (len : Int32) (ec : Int32) (ep : Int32) (pos : Int32) (bg : Int32) (bad : Int32) (plc : Int32) (sta : Int32) (shm : Int32) (w : Nat → Int32) : gM l G yX7_warms cX7_warms 2 none { frames := 0, cells := 0, slots := 0, locals := 0 } [.ref m0] [(m0, .inr (10, [.int rz, .ref m1, .ref m2, .ref m3, .int hf, .int hs, .ref m6, .int len, .int ec, .int ep, .int pos, .int bg, .int bad, .ref m13, .ref m14, .int plc, .int sta, .ref m17, .ref m18, .ref m19, .int shm])), (m1, .inl (G.2.1.1, 670, .inl w))] none [(m0, .inr (10, [.int rz, .ref m1, .ref m2, .ref m3, .int hf, .int hs, .ref m6, .int len, .int ec, .int ep, .int pos, .int bg, .int bad, .ref m13, .ref m14, .int plc, .int sta, .ref m17, .ref m18, .ref m19, .int shm])), (m1, .inl (G.2.1.1, 670, .inl (f_X7_warms w)))] 0 0 := by
  refine gBegin (by decide +kernel) (Nat.le_of_ble_eq_true rfl) (fun p e s m args below meth c A F hr hlocks hname hN hK hP hD hA hS ls hl => ?_)
  obtain ⟨hx, hb, hml, hown, hts⟩ := id F
  replace hP : va_P G.1 vwCl [(m0, .inr (10, [.int rz, .ref m1, .ref m2, .ref m3, .int hf, .int hs, .ref m6, .int len, .int ec, .int ep, .int pos, .int bg, .int bad, .ref m13, .ref m14, .int plc, .int sta, .ref m17, .ref m18, .ref m19, .int shm])), (m1, .inl (G.2.1.1, 670, .inl w))] s.heap := hP
  replace hl : lv_has ls 2 [(0, .ref m0)] := hl
  refine lv_iconst (v := 0) hx hb dX7_warms_0 (by decide) ?_
  refine lv_istore_n (lv' := [(1, .int 0), (0, .ref m0)]) hx hb dX7_warms_1 rfl hl (by decide) rfl (fun ls hl => ?_)
  have loop_2 : ∀ (fu k : Nat), k + fu = 8 → ∀ (H : Heap) (locs : List Loc), va_P G.1 vwCl [(m0, .inr (10, [.int rz, .ref m1, .ref m2, .ref m3, .int hf, .int hs, .ref m6, .int len, .int ec, .int ep, .int pos, .int bg, .int bad, .ref m13, .ref m14, .int plc, .int sta, .ref m17, .ref m18, .ref m19, .int shm])), (m1, .inl (G.2.1.1, 670, .inl (it_X7_warms_2 w k)))] H → va_D A [(m0, .inr (10, [.int rz, .ref m1, .ref m2, .ref m3, .int hf, .int hs, .ref m6, .int len, .int ec, .int ep, .int pos, .int bg, .int bad, .ref m13, .ref m14, .int plc, .int sta, .ref m17, .ref m18, .ref m19, .int shm])), (m1, .inl (G.2.1.1, 670, .inl (it_X7_warms_2 w k)))] → va_S A s.heap H locs → ∀ ls : Array Slot, lv_has ls 2 [(1, .int (nI k)), (0, .ref m0)] → W p l e { frames := 0, cells := 0, slots := 0, locals := 0 } s m args below meth c H locs 0 0 (MQ below (gQ G none [(m0, .inr (10, [.int rz, .ref m1, .ref m2, .ref m3, .int hf, .int hs, .ref m6, .int len, .int ec, .int ep, .int pos, .int bg, .int bad, .ref m13, .ref m14, .int plc, .int sta, .ref m17, .ref m18, .ref m19, .int shm])), (m1, .inl (G.2.1.1, 670, .inl (f_X7_warms w)))] A) args s 0 0 A) (F0 m 2 ls []) := by
    intro fu
    induction fu with
    | zero =>
      intro k hk H locs hP hD hS ls hl
      have ek : 8 = k := by omega
      subst ek
      replace hP : va_P G.1 vwCl [(m0, .inr (10, [.int rz, .ref m1, .ref m2, .ref m3, .int hf, .int hs, .ref m6, .int len, .int ec, .int ep, .int pos, .int bg, .int bad, .ref m13, .ref m14, .int plc, .int sta, .ref m17, .ref m18, .ref m19, .int shm])), (m1, .inl (G.2.1.1, 670, .inl (it_X7_warms_2 w 8)))] H := hP
      replace hD : va_D A [(m0, .inr (10, [.int rz, .ref m1, .ref m2, .ref m3, .int hf, .int hs, .ref m6, .int len, .int ec, .int ep, .int pos, .int bg, .int bad, .ref m13, .ref m14, .int plc, .int sta, .ref m17, .ref m18, .ref m19, .int shm])), (m1, .inl (G.2.1.1, 670, .inl (it_X7_warms_2 w 8)))] := hD
      replace hl : lv_has ls 2 [(1, .int (nI 8)), (0, .ref m0)] := hl
      refine lv_iload_n hx hb dX7_warms_2 rfl (lv_at hl 0 rfl) ?_
      refine lv_bipush (v := 8) hx hb dX7_warms_3 (by decide) ?_
      refine lv_icmp_ge (tgt := 46) hx hb dX7_warms_5 (by decide) (fun c_1 => ?_) (fun c_1 => ?_)
      · skip
        refine lv_aload_n hx hb dX7_warms_46 rfl (lv_at hl 1 rfl) ?_
        refine va_get (D := G.1) (ci := 10) (v := .ref m1) (C := RX7) (T := TX7) (N := 21) hx hb hts in_X7 hown hK hP 0 rfl rfl 1 (by decide) (hts _ k_fl_X7_7) (fun _ h9 => h9) rfl dX7_warms_47 ?_
        refine lv_bipush (v := 9) hx hb dX7_warms_50 (by decide) ?_
        refine lv_dup2_11 hx hb dX7_warms_52 rfl rfl ?_
        refine gIald (k := 9) hx hb hK hP 1 0 rfl rfl (by decide) (gInL (by decide)) dX7_warms_53 ?_
        refine lv_aload_n hx hb dX7_warms_54 rfl (lv_at hl 1 rfl) ?_
        refine va_get (D := G.1) (ci := 10) (v := .ref m1) (C := RX7) (T := TX7) (N := 21) hx hb hts in_X7 hown hK hP 0 rfl rfl 1 (by decide) (hts _ k_fl_X7_7) (fun _ h9 => h9) rfl dX7_warms_55 ?_
        refine lv_bipush (v := 8) hx hb dX7_warms_58 (by decide) ?_
        refine gIald (k := 8) hx hb hK hP 1 0 rfl rfl (by decide) (gInL (by decide)) dX7_warms_60 ?_
        refine lv_aload_n hx hb dX7_warms_61 rfl (lv_at hl 1 rfl) ?_
        refine va_get (D := G.1) (ci := 10) (v := .ref m1) (C := RX7) (T := TX7) (N := 21) hx hb hts in_X7 hown hK hP 0 rfl rfl 1 (by decide) (hts _ k_fl_X7_7) (fun _ h9 => h9) rfl dX7_warms_62 ?_
        refine lv_bipush (v := 9) hx hb dX7_warms_65 (by decide) ?_
        refine gIald (k := 9) hx hb hK hP 1 0 rfl rfl (by decide) (gInL (by decide)) dX7_warms_67 ?_
        refine lv_isub hx hb dX7_warms_68 ?_
        refine lv_bipush (v := 8) hx hb dX7_warms_69 (by decide) ?_
        refine lv_idiv hx hb dX7_warms_71 (by decide) ?_
        refine lv_iadd hx hb dX7_warms_72 ?_
        refine gIast (k := 9) hx hb hK hP hD hS 1 0 rfl rfl (by decide) (gInL (by decide)) dX7_warms_73 (fun H locs hP hD hS => ?_)
        replace hP : va_P G.1 vwCl [(m0, .inr (10, [.int rz, .ref m1, .ref m2, .ref m3, .int hf, .int hs, .ref m6, .int len, .int ec, .int ep, .int pos, .int bg, .int bad, .ref m13, .ref m14, .int plc, .int sta, .ref m17, .ref m18, .ref m19, .int shm])), (m1, .inl (G.2.1.1, 670, .inl (upd (it_X7_warms_2 w 8) 9 (((it_X7_warms_2 w 8) 9) + ((((it_X7_warms_2 w 8) 8) - ((it_X7_warms_2 w 8) 9)) / 8)))))] H := hP
        replace hD : va_D A [(m0, .inr (10, [.int rz, .ref m1, .ref m2, .ref m3, .int hf, .int hs, .ref m6, .int len, .int ec, .int ep, .int pos, .int bg, .int bad, .ref m13, .ref m14, .int plc, .int sta, .ref m17, .ref m18, .ref m19, .int shm])), (m1, .inl (G.2.1.1, 670, .inl (upd (it_X7_warms_2 w 8) 9 (((it_X7_warms_2 w 8) 9) + ((((it_X7_warms_2 w 8) 8) - ((it_X7_warms_2 w 8) 9)) / 8)))))] := hD
        exact gRetV F hr hlocks hK hP hD hS rfl rfl (Nat.le_of_ble_eq_true rfl) (Nat.le_of_ble_eq_true rfl) dX7_warms_74
      · exact absurd (Int32.le_refl _) c_1
    | succ fu ih =>
      intro k hk H locs hP hD hS ls hl
      have hlt_k : k < 8 := by omega
      refine lv_iload_n hx hb dX7_warms_2 rfl (lv_at hl 0 rfl) ?_
      refine lv_bipush (v := 8) hx hb dX7_warms_3 (by decide) ?_
      refine lv_icmp_ge (tgt := 46) hx hb dX7_warms_5 (by decide) (fun c_2 => ?_) (fun c_2 => ?_)
      · exact absurd c_2 (nI_ge hlt_k (by decide))
      · skip
        refine lv_aload_n hx hb dX7_warms_8 rfl (lv_at hl 1 rfl) ?_
        refine va_get (D := G.1) (ci := 10) (v := .ref m1) (C := RX7) (T := TX7) (N := 21) hx hb hts in_X7 hown hK hP 0 rfl rfl 1 (by decide) (hts _ k_fl_X7_7) (fun _ h9 => h9) rfl dX7_warms_9 ?_
        refine lv_bipush (v := 14) hx hb dX7_warms_12 (by decide) ?_
        refine lv_iload_n hx hb dX7_warms_14 rfl (lv_at hl 0 rfl) ?_
        refine lv_iadd hx hb dX7_warms_15 ?_
        refine lv_dup2_11 hx hb dX7_warms_16 rfl rfl ?_
        refine va_iald hx hb hK hP 1 0 rfl rfl (by have z0 : (14 : Int32).toInt = 14 := (by decide); have z1 := nI_toInt (n := k) (by omega); (try have z2 := gI_add (x := 14) (y := (nI k)) (by omega) (by omega)); (try rw [vp_in_iff]); omega) dX7_warms_17 ?_
        refine lv_aload_n hx hb dX7_warms_18 rfl (lv_at hl 1 rfl) ?_
        refine va_get (D := G.1) (ci := 10) (v := .ref m1) (C := RX7) (T := TX7) (N := 21) hx hb hts in_X7 hown hK hP 0 rfl rfl 1 (by decide) (hts _ k_fl_X7_7) (fun _ h9 => h9) rfl dX7_warms_19 ?_
        refine lv_bipush (v := 8) hx hb dX7_warms_22 (by decide) ?_
        refine gIald (k := 8) hx hb hK hP 1 0 rfl rfl (by decide) (gInL (by decide)) dX7_warms_24 ?_
        refine lv_aload_n hx hb dX7_warms_25 rfl (lv_at hl 1 rfl) ?_
        refine va_get (D := G.1) (ci := 10) (v := .ref m1) (C := RX7) (T := TX7) (N := 21) hx hb hts in_X7 hown hK hP 0 rfl rfl 1 (by decide) (hts _ k_fl_X7_7) (fun _ h9 => h9) rfl dX7_warms_26 ?_
        refine lv_bipush (v := 14) hx hb dX7_warms_29 (by decide) ?_
        refine lv_iload_n hx hb dX7_warms_31 rfl (lv_at hl 0 rfl) ?_
        refine lv_iadd hx hb dX7_warms_32 ?_
        refine va_iald hx hb hK hP 1 0 rfl rfl (by have z0 : (14 : Int32).toInt = 14 := (by decide); have z1 := nI_toInt (n := k) (by omega); (try have z2 := gI_add (x := 14) (y := (nI k)) (by omega) (by omega)); (try rw [vp_in_iff]); omega) dX7_warms_33 ?_
        refine lv_isub hx hb dX7_warms_34 ?_
        refine lv_bipush (v := 8) hx hb dX7_warms_35 (by decide) ?_
        refine lv_idiv hx hb dX7_warms_37 (by decide) ?_
        refine lv_iadd hx hb dX7_warms_38 ?_
        refine va_iast hx hb hK hP hD hS 1 0 rfl rfl (by have z0 : (14 : Int32).toInt = 14 := (by decide); have z1 := nI_toInt (n := k) (by omega); (try have z2 := gI_add (x := 14) (y := (nI k)) (by omega) (by omega)); (try rw [vp_in_iff]); omega) dX7_warms_39 (fun H locs hP hD hS => ?_)
        replace hP : va_P G.1 vwCl [(m0, .inr (10, [.int rz, .ref m1, .ref m2, .ref m3, .int hf, .int hs, .ref m6, .int len, .int ec, .int ep, .int pos, .int bg, .int bad, .ref m13, .ref m14, .int plc, .int sta, .ref m17, .ref m18, .ref m19, .int shm])), (m1, .inl (G.2.1.1, 670, .inl (upd (it_X7_warms_2 w k) (Int32.toNatClampNeg (14 + (nI k))) (((it_X7_warms_2 w k) (Int32.toNatClampNeg (14 + (nI k)))) + ((((it_X7_warms_2 w k) 8) - ((it_X7_warms_2 w k) (Int32.toNatClampNeg (14 + (nI k))))) / 8)))))] H := hP
        replace hD : va_D A [(m0, .inr (10, [.int rz, .ref m1, .ref m2, .ref m3, .int hf, .int hs, .ref m6, .int len, .int ec, .int ep, .int pos, .int bg, .int bad, .ref m13, .ref m14, .int plc, .int sta, .ref m17, .ref m18, .ref m19, .int shm])), (m1, .inl (G.2.1.1, 670, .inl (upd (it_X7_warms_2 w k) (Int32.toNatClampNeg (14 + (nI k))) (((it_X7_warms_2 w k) (Int32.toNatClampNeg (14 + (nI k)))) + ((((it_X7_warms_2 w k) 8) - ((it_X7_warms_2 w k) (Int32.toNatClampNeg (14 + (nI k))))) / 8)))))] := hD
        refine lv_iinc (v := (nI (k + 1))) (lv' := [(1, .int (nI (k + 1))), (0, .ref m0)]) hx hb dX7_warms_40 hl (k := 0) rfl (nI_1 k) (by decide) rfl (fun ls hl => ?_)
        refine lv_goto (tgt := 2) hx hb dX7_warms_43 (by decide) ?_
        have ek : (it_X7_warms_2 w (k + 1)) = (upd (it_X7_warms_2 w k) (Int32.toNatClampNeg (14 + (nI k))) (((it_X7_warms_2 w k) (Int32.toNatClampNeg (14 + (nI k)))) + ((((it_X7_warms_2 w k) 8) - ((it_X7_warms_2 w k) (Int32.toNatClampNeg (14 + (nI k))))) / 8))) := rfl
        exact ih (k + 1) (by omega) _ _ (by rw [ek]; exact hP) (by rw [ek]; exact hD) hS ls (lv_sub hl [0, 1] rfl)
  exact loop_2 8 0 (by omega) _ _ hP hD hS ls (lv_sub hl [0, 1] rfl)
theorem okV_X7_warms : gOkV yX7_warms cX7_warms 2 none 0 := ⟨⟨k_im_X7_warms, k_se_X7_warms, k_in_X7, k_cd_X7_warms⟩, by decide, by decide, by decide +kernel⟩
def st_X7_putsAside_2 (w : Nat → Int32) (k : Nat) (v0_ : Nat → Int32) : (Nat → Int32) :=
  (upd v0_ k (w k))
def it_X7_putsAside_2 (w : Nat → Int32) (aside : Nat → Int32) : Nat → (Nat → Int32)
  | 0 => aside
  | i + 1 => st_X7_putsAside_2 w i (it_X7_putsAside_2 w aside i)
def f_X7_putsAside (w : Nat → Int32) (aside : Nat → Int32) : (Nat → Int32) :=
  (it_X7_putsAside_2 w aside 670)
set_option maxRecDepth 100000 in
set_option maxHeartbeats 4000000 in
theorem c_X7_putsAside (l : Launch) (G : gG) (m0 : Nat) (m1 : Nat) (m2 : Nat) (m3 : Nat) (m6 : Nat) (m13 : Nat) (m14 : Nat) (m17 : Nat) (m18 : Nat) (m19 : Nat) (rz : Int32) (hf : Int32) (hs : Int32) (len : Int32) (ec : Int32) (ep : Int32) (pos : Int32) (bg : Int32) (bad : Int32) (plc : Int32) (sta : Int32) (shm : Int32) (w : Nat → Int32) (aside : Nat → Int32) : gM l G yX7_putsAside cX7_putsAside 2 none { frames := 0, cells := 0, slots := 0, locals := 0 } [.ref m0] [(m0, .inr (10, [.int rz, .ref m1, .ref m2, .ref m3, .int hf, .int hs, .ref m6, .int len, .int ec, .int ep, .int pos, .int bg, .int bad, .ref m13, .ref m14, .int plc, .int sta, .ref m17, .ref m18, .ref m19, .int shm])), (m1, .inl (G.2.1.1, 670, .inl w)), (m2, .inl (G.2.1.1, 670, .inl aside))] none [(m0, .inr (10, [.int rz, .ref m1, .ref m2, .ref m3, .int hf, .int hs, .ref m6, .int len, .int ec, .int ep, .int pos, .int bg, .int bad, .ref m13, .ref m14, .int plc, .int sta, .ref m17, .ref m18, .ref m19, .int shm])), (m1, .inl (G.2.1.1, 670, .inl w)), (m2, .inl (G.2.1.1, 670, .inl (f_X7_putsAside w aside)))] 0 0 := by
  refine gBegin (by decide +kernel) (Nat.le_of_ble_eq_true rfl) (fun p e s m args below meth c A F hr hlocks hname hN hK hP hD hA hS ls hl => ?_)
  obtain ⟨hx, hb, hml, hown, hts⟩ := id F
  replace hP : va_P G.1 vwCl [(m0, .inr (10, [.int rz, .ref m1, .ref m2, .ref m3, .int hf, .int hs, .ref m6, .int len, .int ec, .int ep, .int pos, .int bg, .int bad, .ref m13, .ref m14, .int plc, .int sta, .ref m17, .ref m18, .ref m19, .int shm])), (m1, .inl (G.2.1.1, 670, .inl w)), (m2, .inl (G.2.1.1, 670, .inl aside))] s.heap := hP
  replace hl : lv_has ls 2 [(0, .ref m0)] := hl
  refine lv_iconst (v := 0) hx hb dX7_putsAside_0 (by decide) ?_
  refine lv_istore_n (lv' := [(1, .int 0), (0, .ref m0)]) hx hb dX7_putsAside_1 rfl hl (by decide) rfl (fun ls hl => ?_)
  have loop_2 : ∀ (fu k : Nat), k + fu = 670 → ∀ (H : Heap) (locs : List Loc), va_P G.1 vwCl [(m0, .inr (10, [.int rz, .ref m1, .ref m2, .ref m3, .int hf, .int hs, .ref m6, .int len, .int ec, .int ep, .int pos, .int bg, .int bad, .ref m13, .ref m14, .int plc, .int sta, .ref m17, .ref m18, .ref m19, .int shm])), (m1, .inl (G.2.1.1, 670, .inl w)), (m2, .inl (G.2.1.1, 670, .inl (it_X7_putsAside_2 w aside k)))] H → va_D A [(m0, .inr (10, [.int rz, .ref m1, .ref m2, .ref m3, .int hf, .int hs, .ref m6, .int len, .int ec, .int ep, .int pos, .int bg, .int bad, .ref m13, .ref m14, .int plc, .int sta, .ref m17, .ref m18, .ref m19, .int shm])), (m1, .inl (G.2.1.1, 670, .inl w)), (m2, .inl (G.2.1.1, 670, .inl (it_X7_putsAside_2 w aside k)))] → va_S A s.heap H locs → ∀ ls : Array Slot, lv_has ls 2 [(1, .int (nI k)), (0, .ref m0)] → W p l e { frames := 0, cells := 0, slots := 0, locals := 0 } s m args below meth c H locs 0 0 (MQ below (gQ G none [(m0, .inr (10, [.int rz, .ref m1, .ref m2, .ref m3, .int hf, .int hs, .ref m6, .int len, .int ec, .int ep, .int pos, .int bg, .int bad, .ref m13, .ref m14, .int plc, .int sta, .ref m17, .ref m18, .ref m19, .int shm])), (m1, .inl (G.2.1.1, 670, .inl w)), (m2, .inl (G.2.1.1, 670, .inl (f_X7_putsAside w aside)))] A) args s 0 0 A) (F0 m 2 ls []) := by
    intro fu
    induction fu with
    | zero =>
      intro k hk H locs hP hD hS ls hl
      have ek : 670 = k := by omega
      subst ek
      replace hP : va_P G.1 vwCl [(m0, .inr (10, [.int rz, .ref m1, .ref m2, .ref m3, .int hf, .int hs, .ref m6, .int len, .int ec, .int ep, .int pos, .int bg, .int bad, .ref m13, .ref m14, .int plc, .int sta, .ref m17, .ref m18, .ref m19, .int shm])), (m1, .inl (G.2.1.1, 670, .inl w)), (m2, .inl (G.2.1.1, 670, .inl (it_X7_putsAside_2 w aside 670)))] H := hP
      replace hD : va_D A [(m0, .inr (10, [.int rz, .ref m1, .ref m2, .ref m3, .int hf, .int hs, .ref m6, .int len, .int ec, .int ep, .int pos, .int bg, .int bad, .ref m13, .ref m14, .int plc, .int sta, .ref m17, .ref m18, .ref m19, .int shm])), (m1, .inl (G.2.1.1, 670, .inl w)), (m2, .inl (G.2.1.1, 670, .inl (it_X7_putsAside_2 w aside 670)))] := hD
      replace hl : lv_has ls 2 [(1, .int (nI 670)), (0, .ref m0)] := hl
      refine lv_iload_n hx hb dX7_putsAside_2 rfl (lv_at hl 0 rfl) ?_
      refine lv_sipush (v := 670) hx hb dX7_putsAside_3 (by decide) ?_
      refine lv_icmp_ge (tgt := 27) hx hb dX7_putsAside_6 (by decide) (fun c_1 => ?_) (fun c_1 => ?_)
      · skip
        exact gRetV F hr hlocks hK hP hD hS rfl rfl (Nat.le_of_ble_eq_true rfl) (Nat.le_of_ble_eq_true rfl) dX7_putsAside_27
      · exact absurd (Int32.le_refl _) c_1
    | succ fu ih =>
      intro k hk H locs hP hD hS ls hl
      have hlt_k : k < 670 := by omega
      refine lv_iload_n hx hb dX7_putsAside_2 rfl (lv_at hl 0 rfl) ?_
      refine lv_sipush (v := 670) hx hb dX7_putsAside_3 (by decide) ?_
      refine lv_icmp_ge (tgt := 27) hx hb dX7_putsAside_6 (by decide) (fun c_2 => ?_) (fun c_2 => ?_)
      · exact absurd c_2 (nI_ge hlt_k (by decide))
      · skip
        refine lv_aload_n hx hb dX7_putsAside_9 rfl (lv_at hl 1 rfl) ?_
        refine va_get (D := G.1) (ci := 10) (v := .ref m2) (C := RX7) (T := TX7) (N := 21) hx hb hts in_X7 hown hK hP 0 rfl rfl 2 (by decide) (hts _ k_fl_X7_13) (fun _ h9 => h9) rfl dX7_putsAside_10 ?_
        refine lv_iload_n hx hb dX7_putsAside_13 rfl (lv_at hl 0 rfl) ?_
        refine lv_aload_n hx hb dX7_putsAside_14 rfl (lv_at hl 1 rfl) ?_
        refine va_get (D := G.1) (ci := 10) (v := .ref m1) (C := RX7) (T := TX7) (N := 21) hx hb hts in_X7 hown hK hP 0 rfl rfl 1 (by decide) (hts _ k_fl_X7_7) (fun _ h9 => h9) rfl dX7_putsAside_15 ?_
        refine lv_iload_n hx hb dX7_putsAside_18 rfl (lv_at hl 0 rfl) ?_
        refine gIald (k := k) hx hb hK hP 1 0 rfl rfl (nI_clamp (by omega)) (vp_in_nI (Nat.lt_of_lt_of_le hlt_k (Nat.le_of_ble_eq_true rfl)) (by decide)) dX7_putsAside_19 ?_
        refine gIast (k := k) hx hb hK hP hD hS 2 0 rfl rfl (nI_clamp (by omega)) (vp_in_nI (Nat.lt_of_lt_of_le hlt_k (Nat.le_of_ble_eq_true rfl)) (by decide)) dX7_putsAside_20 (fun H locs hP hD hS => ?_)
        replace hP : va_P G.1 vwCl [(m0, .inr (10, [.int rz, .ref m1, .ref m2, .ref m3, .int hf, .int hs, .ref m6, .int len, .int ec, .int ep, .int pos, .int bg, .int bad, .ref m13, .ref m14, .int plc, .int sta, .ref m17, .ref m18, .ref m19, .int shm])), (m1, .inl (G.2.1.1, 670, .inl w)), (m2, .inl (G.2.1.1, 670, .inl (upd (it_X7_putsAside_2 w aside k) k (w k))))] H := hP
        replace hD : va_D A [(m0, .inr (10, [.int rz, .ref m1, .ref m2, .ref m3, .int hf, .int hs, .ref m6, .int len, .int ec, .int ep, .int pos, .int bg, .int bad, .ref m13, .ref m14, .int plc, .int sta, .ref m17, .ref m18, .ref m19, .int shm])), (m1, .inl (G.2.1.1, 670, .inl w)), (m2, .inl (G.2.1.1, 670, .inl (upd (it_X7_putsAside_2 w aside k) k (w k))))] := hD
        refine lv_iinc (v := (nI (k + 1))) (lv' := [(1, .int (nI (k + 1))), (0, .ref m0)]) hx hb dX7_putsAside_21 hl (k := 0) rfl (nI_1 k) (by decide) rfl (fun ls hl => ?_)
        refine lv_goto (tgt := 2) hx hb dX7_putsAside_24 (by decide) ?_
        have ek : (it_X7_putsAside_2 w aside (k + 1)) = (upd (it_X7_putsAside_2 w aside k) k (w k)) := rfl
        exact ih (k + 1) (by omega) _ _ (by rw [ek]; exact hP) (by rw [ek]; exact hD) hS ls (lv_sub hl [0, 1] rfl)
  exact loop_2 670 0 (by omega) _ _ hP hD hS ls (lv_sub hl [0, 1] rfl)
theorem okV_X7_putsAside : gOkV yX7_putsAside cX7_putsAside 2 none 0 := ⟨⟨k_im_X7_putsAside, k_se_X7_putsAside, k_in_X7, k_cd_X7_putsAside⟩, by decide, by decide, by decide +kernel⟩
def st_X7_takesBack_2 (aside : Nat → Int32) (k : Nat) (v0_ : Nat → Int32) : (Nat → Int32) :=
  (upd v0_ k (aside k))
def it_X7_takesBack_2 (w : Nat → Int32) (aside : Nat → Int32) : Nat → (Nat → Int32)
  | 0 => w
  | i + 1 => st_X7_takesBack_2 aside i (it_X7_takesBack_2 w aside i)
def f_X7_takesBack (w : Nat → Int32) (aside : Nat → Int32) : (Nat → Int32) :=
  (it_X7_takesBack_2 w aside 670)
set_option maxRecDepth 100000 in
set_option maxHeartbeats 4000000 in
theorem c_X7_takesBack (l : Launch) (G : gG) (m0 : Nat) (m1 : Nat) (m2 : Nat) (m3 : Nat) (m6 : Nat) (m13 : Nat) (m14 : Nat) (m17 : Nat) (m18 : Nat) (m19 : Nat) (rz : Int32) (hf : Int32) (hs : Int32) (len : Int32) (ec : Int32) (ep : Int32) (pos : Int32) (bg : Int32) (bad : Int32) (plc : Int32) (sta : Int32) (shm : Int32) (w : Nat → Int32) (aside : Nat → Int32) : gM l G yX7_takesBack cX7_takesBack 2 none { frames := 0, cells := 0, slots := 0, locals := 0 } [.ref m0] [(m0, .inr (10, [.int rz, .ref m1, .ref m2, .ref m3, .int hf, .int hs, .ref m6, .int len, .int ec, .int ep, .int pos, .int bg, .int bad, .ref m13, .ref m14, .int plc, .int sta, .ref m17, .ref m18, .ref m19, .int shm])), (m1, .inl (G.2.1.1, 670, .inl w)), (m2, .inl (G.2.1.1, 670, .inl aside))] none [(m0, .inr (10, [.int rz, .ref m1, .ref m2, .ref m3, .int hf, .int hs, .ref m6, .int len, .int ec, .int ep, .int pos, .int bg, .int bad, .ref m13, .ref m14, .int plc, .int sta, .ref m17, .ref m18, .ref m19, .int shm])), (m1, .inl (G.2.1.1, 670, .inl (f_X7_takesBack w aside))), (m2, .inl (G.2.1.1, 670, .inl aside))] 0 0 := by
  refine gBegin (by decide +kernel) (Nat.le_of_ble_eq_true rfl) (fun p e s m args below meth c A F hr hlocks hname hN hK hP hD hA hS ls hl => ?_)
  obtain ⟨hx, hb, hml, hown, hts⟩ := id F
  replace hP : va_P G.1 vwCl [(m0, .inr (10, [.int rz, .ref m1, .ref m2, .ref m3, .int hf, .int hs, .ref m6, .int len, .int ec, .int ep, .int pos, .int bg, .int bad, .ref m13, .ref m14, .int plc, .int sta, .ref m17, .ref m18, .ref m19, .int shm])), (m1, .inl (G.2.1.1, 670, .inl w)), (m2, .inl (G.2.1.1, 670, .inl aside))] s.heap := hP
  replace hl : lv_has ls 2 [(0, .ref m0)] := hl
  refine lv_iconst (v := 0) hx hb dX7_takesBack_0 (by decide) ?_
  refine lv_istore_n (lv' := [(1, .int 0), (0, .ref m0)]) hx hb dX7_takesBack_1 rfl hl (by decide) rfl (fun ls hl => ?_)
  have loop_2 : ∀ (fu k : Nat), k + fu = 670 → ∀ (H : Heap) (locs : List Loc), va_P G.1 vwCl [(m0, .inr (10, [.int rz, .ref m1, .ref m2, .ref m3, .int hf, .int hs, .ref m6, .int len, .int ec, .int ep, .int pos, .int bg, .int bad, .ref m13, .ref m14, .int plc, .int sta, .ref m17, .ref m18, .ref m19, .int shm])), (m1, .inl (G.2.1.1, 670, .inl (it_X7_takesBack_2 w aside k))), (m2, .inl (G.2.1.1, 670, .inl aside))] H → va_D A [(m0, .inr (10, [.int rz, .ref m1, .ref m2, .ref m3, .int hf, .int hs, .ref m6, .int len, .int ec, .int ep, .int pos, .int bg, .int bad, .ref m13, .ref m14, .int plc, .int sta, .ref m17, .ref m18, .ref m19, .int shm])), (m1, .inl (G.2.1.1, 670, .inl (it_X7_takesBack_2 w aside k))), (m2, .inl (G.2.1.1, 670, .inl aside))] → va_S A s.heap H locs → ∀ ls : Array Slot, lv_has ls 2 [(1, .int (nI k)), (0, .ref m0)] → W p l e { frames := 0, cells := 0, slots := 0, locals := 0 } s m args below meth c H locs 0 0 (MQ below (gQ G none [(m0, .inr (10, [.int rz, .ref m1, .ref m2, .ref m3, .int hf, .int hs, .ref m6, .int len, .int ec, .int ep, .int pos, .int bg, .int bad, .ref m13, .ref m14, .int plc, .int sta, .ref m17, .ref m18, .ref m19, .int shm])), (m1, .inl (G.2.1.1, 670, .inl (f_X7_takesBack w aside))), (m2, .inl (G.2.1.1, 670, .inl aside))] A) args s 0 0 A) (F0 m 2 ls []) := by
    intro fu
    induction fu with
    | zero =>
      intro k hk H locs hP hD hS ls hl
      have ek : 670 = k := by omega
      subst ek
      replace hP : va_P G.1 vwCl [(m0, .inr (10, [.int rz, .ref m1, .ref m2, .ref m3, .int hf, .int hs, .ref m6, .int len, .int ec, .int ep, .int pos, .int bg, .int bad, .ref m13, .ref m14, .int plc, .int sta, .ref m17, .ref m18, .ref m19, .int shm])), (m1, .inl (G.2.1.1, 670, .inl (it_X7_takesBack_2 w aside 670))), (m2, .inl (G.2.1.1, 670, .inl aside))] H := hP
      replace hD : va_D A [(m0, .inr (10, [.int rz, .ref m1, .ref m2, .ref m3, .int hf, .int hs, .ref m6, .int len, .int ec, .int ep, .int pos, .int bg, .int bad, .ref m13, .ref m14, .int plc, .int sta, .ref m17, .ref m18, .ref m19, .int shm])), (m1, .inl (G.2.1.1, 670, .inl (it_X7_takesBack_2 w aside 670))), (m2, .inl (G.2.1.1, 670, .inl aside))] := hD
      replace hl : lv_has ls 2 [(1, .int (nI 670)), (0, .ref m0)] := hl
      refine lv_iload_n hx hb dX7_takesBack_2 rfl (lv_at hl 0 rfl) ?_
      refine lv_sipush (v := 670) hx hb dX7_takesBack_3 (by decide) ?_
      refine lv_icmp_ge (tgt := 27) hx hb dX7_takesBack_6 (by decide) (fun c_1 => ?_) (fun c_1 => ?_)
      · skip
        exact gRetV F hr hlocks hK hP hD hS rfl rfl (Nat.le_of_ble_eq_true rfl) (Nat.le_of_ble_eq_true rfl) dX7_takesBack_27
      · exact absurd (Int32.le_refl _) c_1
    | succ fu ih =>
      intro k hk H locs hP hD hS ls hl
      have hlt_k : k < 670 := by omega
      refine lv_iload_n hx hb dX7_takesBack_2 rfl (lv_at hl 0 rfl) ?_
      refine lv_sipush (v := 670) hx hb dX7_takesBack_3 (by decide) ?_
      refine lv_icmp_ge (tgt := 27) hx hb dX7_takesBack_6 (by decide) (fun c_2 => ?_) (fun c_2 => ?_)
      · exact absurd c_2 (nI_ge hlt_k (by decide))
      · skip
        refine lv_aload_n hx hb dX7_takesBack_9 rfl (lv_at hl 1 rfl) ?_
        refine va_get (D := G.1) (ci := 10) (v := .ref m1) (C := RX7) (T := TX7) (N := 21) hx hb hts in_X7 hown hK hP 0 rfl rfl 1 (by decide) (hts _ k_fl_X7_7) (fun _ h9 => h9) rfl dX7_takesBack_10 ?_
        refine lv_iload_n hx hb dX7_takesBack_13 rfl (lv_at hl 0 rfl) ?_
        refine lv_aload_n hx hb dX7_takesBack_14 rfl (lv_at hl 1 rfl) ?_
        refine va_get (D := G.1) (ci := 10) (v := .ref m2) (C := RX7) (T := TX7) (N := 21) hx hb hts in_X7 hown hK hP 0 rfl rfl 2 (by decide) (hts _ k_fl_X7_13) (fun _ h9 => h9) rfl dX7_takesBack_15 ?_
        refine lv_iload_n hx hb dX7_takesBack_18 rfl (lv_at hl 0 rfl) ?_
        refine gIald (k := k) hx hb hK hP 2 0 rfl rfl (nI_clamp (by omega)) (vp_in_nI (Nat.lt_of_lt_of_le hlt_k (Nat.le_of_ble_eq_true rfl)) (by decide)) dX7_takesBack_19 ?_
        refine gIast (k := k) hx hb hK hP hD hS 1 0 rfl rfl (nI_clamp (by omega)) (vp_in_nI (Nat.lt_of_lt_of_le hlt_k (Nat.le_of_ble_eq_true rfl)) (by decide)) dX7_takesBack_20 (fun H locs hP hD hS => ?_)
        replace hP : va_P G.1 vwCl [(m0, .inr (10, [.int rz, .ref m1, .ref m2, .ref m3, .int hf, .int hs, .ref m6, .int len, .int ec, .int ep, .int pos, .int bg, .int bad, .ref m13, .ref m14, .int plc, .int sta, .ref m17, .ref m18, .ref m19, .int shm])), (m1, .inl (G.2.1.1, 670, .inl (upd (it_X7_takesBack_2 w aside k) k (aside k)))), (m2, .inl (G.2.1.1, 670, .inl aside))] H := hP
        replace hD : va_D A [(m0, .inr (10, [.int rz, .ref m1, .ref m2, .ref m3, .int hf, .int hs, .ref m6, .int len, .int ec, .int ep, .int pos, .int bg, .int bad, .ref m13, .ref m14, .int plc, .int sta, .ref m17, .ref m18, .ref m19, .int shm])), (m1, .inl (G.2.1.1, 670, .inl (upd (it_X7_takesBack_2 w aside k) k (aside k)))), (m2, .inl (G.2.1.1, 670, .inl aside))] := hD
        refine lv_iinc (v := (nI (k + 1))) (lv' := [(1, .int (nI (k + 1))), (0, .ref m0)]) hx hb dX7_takesBack_21 hl (k := 0) rfl (nI_1 k) (by decide) rfl (fun ls hl => ?_)
        refine lv_goto (tgt := 2) hx hb dX7_takesBack_24 (by decide) ?_
        have ek : (it_X7_takesBack_2 w aside (k + 1)) = (upd (it_X7_takesBack_2 w aside k) k (aside k)) := rfl
        exact ih (k + 1) (by omega) _ _ (by rw [ek]; exact hP) (by rw [ek]; exact hD) hS ls (lv_sub hl [0, 1] rfl)
  exact loop_2 670 0 (by omega) _ _ hP hD hS ls (lv_sub hl [0, 1] rfl)
theorem okV_X7_takesBack : gOkV yX7_takesBack cX7_takesBack 2 none 0 := ⟨⟨k_im_X7_takesBack, k_se_X7_takesBack, k_in_X7, k_cd_X7_takesBack⟩, by decide, by decide, by decide +kernel⟩
def st_X7_moves_2 (w : Nat → Int32) (p0 : Int32) (p1 : Int32) (k : Nat) (v0_ : Nat → Int32) : (Nat → Int32) :=
  if 0 ≤ (((nI k) + p1) % 640) then
    (upd v0_ (Int32.toNatClampNeg (((nI k) + p1) % 640)) ((((w (Int32.toNatClampNeg ((414 + (32 * p0)) + ((nI k) / 20)))) >>> (((nI k) % 20) &&& 31)) : Int32) &&& 1))
  else
    (upd v0_ (Int32.toNatClampNeg ((((nI k) + p1) % 640) + 640)) ((((w (Int32.toNatClampNeg ((414 + (32 * p0)) + ((nI k) / 20)))) >>> (((nI k) % 20) &&& 31)) : Int32) &&& 1))
def it_X7_moves_2 (w : Nat → Int32) (ring : Nat → Int32) (p0 : Int32) (p1 : Int32) : Nat → (Nat → Int32)
  | 0 => ring
  | i + 1 => st_X7_moves_2 w p0 p1 i (it_X7_moves_2 w ring p0 p1 i)
def st_X7_moves_72 (w : Nat → Int32) (ring : Nat → Int32) (p0 : Int32) (p1 : Int32) (k : Nat) (v0_ : Nat → Int32) : (Nat → Int32) :=
  (upd v0_ (Int32.toNatClampNeg ((414 + (32 * p0)) + (nI k))) ((2 * ((2 * ((2 * ((2 * ((2 * ((2 * ((2 * ((2 * ((2 * ((2 * ((2 * ((2 * ((2 * ((2 * ((2 * ((2 * ((2 * ((2 * ((2 * ((2 * 0) + ((it_X7_moves_2 w ring p0 p1 640) (Int32.toNatClampNeg ((20 * (nI k)) + 19))))) + ((it_X7_moves_2 w ring p0 p1 640) (Int32.toNatClampNeg ((20 * (nI k)) + 18))))) + ((it_X7_moves_2 w ring p0 p1 640) (Int32.toNatClampNeg ((20 * (nI k)) + 17))))) + ((it_X7_moves_2 w ring p0 p1 640) (Int32.toNatClampNeg ((20 * (nI k)) + 16))))) + ((it_X7_moves_2 w ring p0 p1 640) (Int32.toNatClampNeg ((20 * (nI k)) + 15))))) + ((it_X7_moves_2 w ring p0 p1 640) (Int32.toNatClampNeg ((20 * (nI k)) + 14))))) + ((it_X7_moves_2 w ring p0 p1 640) (Int32.toNatClampNeg ((20 * (nI k)) + 13))))) + ((it_X7_moves_2 w ring p0 p1 640) (Int32.toNatClampNeg ((20 * (nI k)) + 12))))) + ((it_X7_moves_2 w ring p0 p1 640) (Int32.toNatClampNeg ((20 * (nI k)) + 11))))) + ((it_X7_moves_2 w ring p0 p1 640) (Int32.toNatClampNeg ((20 * (nI k)) + 10))))) + ((it_X7_moves_2 w ring p0 p1 640) (Int32.toNatClampNeg ((20 * (nI k)) + 9))))) + ((it_X7_moves_2 w ring p0 p1 640) (Int32.toNatClampNeg ((20 * (nI k)) + 8))))) + ((it_X7_moves_2 w ring p0 p1 640) (Int32.toNatClampNeg ((20 * (nI k)) + 7))))) + ((it_X7_moves_2 w ring p0 p1 640) (Int32.toNatClampNeg ((20 * (nI k)) + 6))))) + ((it_X7_moves_2 w ring p0 p1 640) (Int32.toNatClampNeg ((20 * (nI k)) + 5))))) + ((it_X7_moves_2 w ring p0 p1 640) (Int32.toNatClampNeg ((20 * (nI k)) + 4))))) + ((it_X7_moves_2 w ring p0 p1 640) (Int32.toNatClampNeg ((20 * (nI k)) + 3))))) + ((it_X7_moves_2 w ring p0 p1 640) (Int32.toNatClampNeg ((20 * (nI k)) + 2))))) + ((it_X7_moves_2 w ring p0 p1 640) (Int32.toNatClampNeg ((20 * (nI k)) + 1))))) + ((it_X7_moves_2 w ring p0 p1 640) (Int32.toNatClampNeg ((20 * (nI k)) + 0)))))
def it_X7_moves_72 (w : Nat → Int32) (ring : Nat → Int32) (p0 : Int32) (p1 : Int32) : Nat → (Nat → Int32)
  | 0 => w
  | i + 1 => st_X7_moves_72 w ring p0 p1 i (it_X7_moves_72 w ring p0 p1 i)
def f_X7_moves (w : Nat → Int32) (ring : Nat → Int32) (p0 : Int32) (p1 : Int32) : (Nat → Int32) × (Nat → Int32) :=
  ((upd (it_X7_moves_72 w ring p0 p1 32) (Int32.toNatClampNeg (22 + p0)) (((it_X7_moves_72 w ring p0 p1 32) (Int32.toNatClampNeg (22 + p0))) + (f_X7_distance p1))), (it_X7_moves_2 w ring p0 p1 640))
set_option maxRecDepth 100000 in
set_option maxHeartbeats 4000000 in
theorem c_X7_moves (l : Launch) (G : gG) (m0 : Nat) (m1 : Nat) (m2 : Nat) (m3 : Nat) (m6 : Nat) (m13 : Nat) (m14 : Nat) (m17 : Nat) (m18 : Nat) (m19 : Nat) (rz : Int32) (hf : Int32) (hs : Int32) (len : Int32) (ec : Int32) (ep : Int32) (pos : Int32) (bg : Int32) (bad : Int32) (plc : Int32) (sta : Int32) (shm : Int32) (w : Nat → Int32) (ring : Nat → Int32) (p0 : Int32) (p1 : Int32) (ht : 0 ≤ p0.toInt ∧ p0.toInt < 8) : gM l G yX7_moves cX7_moves 6 none { frames := 1, cells := 0, slots := 0, locals := 20 } [.ref m0, .int p0, .int p1] [(m0, .inr (10, [.int rz, .ref m1, .ref m2, .ref m3, .int hf, .int hs, .ref m6, .int len, .int ec, .int ep, .int pos, .int bg, .int bad, .ref m13, .ref m14, .int plc, .int sta, .ref m17, .ref m18, .ref m19, .int shm])), (m1, .inl (G.2.1.1, 670, .inl w)), (m18, .inl (G.2.1.1, 640, .inl ring))] none [(m0, .inr (10, [.int rz, .ref m1, .ref m2, .ref m3, .int hf, .int hs, .ref m6, .int len, .int ec, .int ep, .int pos, .int bg, .int bad, .ref m13, .ref m14, .int plc, .int sta, .ref m17, .ref m18, .ref m19, .int shm])), (m1, .inl (G.2.1.1, 670, .inl ((f_X7_moves w ring p0 p1).1))), (m18, .inl (G.2.1.1, 640, .inl ((f_X7_moves w ring p0 p1).2)))] 0 0 := by
  refine gBegin (by decide +kernel) (Nat.le_of_ble_eq_true rfl) (fun p e s m args below meth c A F hr hlocks hname hN hK hP hD hA hS ls hl => ?_)
  obtain ⟨hx, hb, hml, hown, hts⟩ := id F
  replace hP : va_P G.1 vwCl [(m0, .inr (10, [.int rz, .ref m1, .ref m2, .ref m3, .int hf, .int hs, .ref m6, .int len, .int ec, .int ep, .int pos, .int bg, .int bad, .ref m13, .ref m14, .int plc, .int sta, .ref m17, .ref m18, .ref m19, .int shm])), (m1, .inl (G.2.1.1, 670, .inl w)), (m18, .inl (G.2.1.1, 640, .inl ring))] s.heap := hP
  replace hl : lv_has ls 6 [(0, .ref m0), (1, .int p0), (2, .int p1)] := hl
  refine lv_iconst (v := 0) hx hb dX7_moves_0 (by decide) ?_
  refine lv_istore_n (lv' := [(3, .int 0), (0, .ref m0), (1, .int p0), (2, .int p1)]) hx hb dX7_moves_1 rfl hl (by decide) rfl (fun ls hl => ?_)
  have loop_2 : ∀ (fu k : Nat), k + fu = 640 → ∀ (H : Heap) (locs : List Loc), va_P G.1 vwCl [(m0, .inr (10, [.int rz, .ref m1, .ref m2, .ref m3, .int hf, .int hs, .ref m6, .int len, .int ec, .int ep, .int pos, .int bg, .int bad, .ref m13, .ref m14, .int plc, .int sta, .ref m17, .ref m18, .ref m19, .int shm])), (m1, .inl (G.2.1.1, 670, .inl w)), (m18, .inl (G.2.1.1, 640, .inl (it_X7_moves_2 w ring p0 p1 k)))] H → va_D A [(m0, .inr (10, [.int rz, .ref m1, .ref m2, .ref m3, .int hf, .int hs, .ref m6, .int len, .int ec, .int ep, .int pos, .int bg, .int bad, .ref m13, .ref m14, .int plc, .int sta, .ref m17, .ref m18, .ref m19, .int shm])), (m1, .inl (G.2.1.1, 670, .inl w)), (m18, .inl (G.2.1.1, 640, .inl (it_X7_moves_2 w ring p0 p1 k)))] → va_S A s.heap H locs → ∀ ls : Array Slot, lv_has ls 6 [(3, .int (nI k)), (0, .ref m0), (1, .int p0), (2, .int p1)] → W p l e { frames := 1, cells := 0, slots := 0, locals := 20 } s m args below meth c H locs 0 0 (MQ below (gQ G none [(m0, .inr (10, [.int rz, .ref m1, .ref m2, .ref m3, .int hf, .int hs, .ref m6, .int len, .int ec, .int ep, .int pos, .int bg, .int bad, .ref m13, .ref m14, .int plc, .int sta, .ref m17, .ref m18, .ref m19, .int shm])), (m1, .inl (G.2.1.1, 670, .inl ((f_X7_moves w ring p0 p1).1))), (m18, .inl (G.2.1.1, 640, .inl ((f_X7_moves w ring p0 p1).2)))] A) args s 0 0 A) (F0 m 2 ls []) := by
    intro fu
    induction fu with
    | zero =>
      intro k hk H locs hP hD hS ls hl
      have ek : 640 = k := by omega
      subst ek
      replace hP : va_P G.1 vwCl [(m0, .inr (10, [.int rz, .ref m1, .ref m2, .ref m3, .int hf, .int hs, .ref m6, .int len, .int ec, .int ep, .int pos, .int bg, .int bad, .ref m13, .ref m14, .int plc, .int sta, .ref m17, .ref m18, .ref m19, .int shm])), (m1, .inl (G.2.1.1, 670, .inl w)), (m18, .inl (G.2.1.1, 640, .inl (it_X7_moves_2 w ring p0 p1 640)))] H := hP
      replace hD : va_D A [(m0, .inr (10, [.int rz, .ref m1, .ref m2, .ref m3, .int hf, .int hs, .ref m6, .int len, .int ec, .int ep, .int pos, .int bg, .int bad, .ref m13, .ref m14, .int plc, .int sta, .ref m17, .ref m18, .ref m19, .int shm])), (m1, .inl (G.2.1.1, 670, .inl w)), (m18, .inl (G.2.1.1, 640, .inl (it_X7_moves_2 w ring p0 p1 640)))] := hD
      replace hl : lv_has ls 6 [(3, .int (nI 640)), (0, .ref m0), (1, .int p0), (2, .int p1)] := hl
      refine lv_iload_n hx hb dX7_moves_2 rfl (lv_at hl 0 rfl) ?_
      refine lv_sipush (v := 640) hx hb dX7_moves_3 (by decide) ?_
      refine lv_icmp_ge (tgt := 70) hx hb dX7_moves_6 (by decide) (fun c_1 => ?_) (fun c_1 => ?_)
      · skip
        refine lv_iconst (v := 0) hx hb dX7_moves_70 (by decide) ?_
        refine lv_istore_n (lv' := [(3, .int 0), (0, .ref m0), (1, .int p0), (2, .int p1)]) hx hb dX7_moves_71 rfl hl (by decide) rfl (fun ls hl => ?_)
        have loop_72 : ∀ (fu k : Nat), k + fu = 32 → ∀ (H : Heap) (locs : List Loc), va_P G.1 vwCl [(m0, .inr (10, [.int rz, .ref m1, .ref m2, .ref m3, .int hf, .int hs, .ref m6, .int len, .int ec, .int ep, .int pos, .int bg, .int bad, .ref m13, .ref m14, .int plc, .int sta, .ref m17, .ref m18, .ref m19, .int shm])), (m1, .inl (G.2.1.1, 670, .inl (it_X7_moves_72 w ring p0 p1 k))), (m18, .inl (G.2.1.1, 640, .inl (it_X7_moves_2 w ring p0 p1 640)))] H → va_D A [(m0, .inr (10, [.int rz, .ref m1, .ref m2, .ref m3, .int hf, .int hs, .ref m6, .int len, .int ec, .int ep, .int pos, .int bg, .int bad, .ref m13, .ref m14, .int plc, .int sta, .ref m17, .ref m18, .ref m19, .int shm])), (m1, .inl (G.2.1.1, 670, .inl (it_X7_moves_72 w ring p0 p1 k))), (m18, .inl (G.2.1.1, 640, .inl (it_X7_moves_2 w ring p0 p1 640)))] → va_S A s.heap H locs → ∀ ls : Array Slot, lv_has ls 6 [(3, .int (nI k)), (0, .ref m0), (1, .int p0), (2, .int p1)] → W p l e { frames := 1, cells := 0, slots := 0, locals := 20 } s m args below meth c H locs 0 0 (MQ below (gQ G none [(m0, .inr (10, [.int rz, .ref m1, .ref m2, .ref m3, .int hf, .int hs, .ref m6, .int len, .int ec, .int ep, .int pos, .int bg, .int bad, .ref m13, .ref m14, .int plc, .int sta, .ref m17, .ref m18, .ref m19, .int shm])), (m1, .inl (G.2.1.1, 670, .inl ((f_X7_moves w ring p0 p1).1))), (m18, .inl (G.2.1.1, 640, .inl ((f_X7_moves w ring p0 p1).2)))] A) args s 0 0 A) (F0 m 72 ls []) := by
          intro fu
          induction fu with
          | zero =>
            intro k hk H locs hP hD hS ls hl
            have ek : 32 = k := by omega
            subst ek
            replace hP : va_P G.1 vwCl [(m0, .inr (10, [.int rz, .ref m1, .ref m2, .ref m3, .int hf, .int hs, .ref m6, .int len, .int ec, .int ep, .int pos, .int bg, .int bad, .ref m13, .ref m14, .int plc, .int sta, .ref m17, .ref m18, .ref m19, .int shm])), (m1, .inl (G.2.1.1, 670, .inl (it_X7_moves_72 w ring p0 p1 32))), (m18, .inl (G.2.1.1, 640, .inl (it_X7_moves_2 w ring p0 p1 640)))] H := hP
            replace hD : va_D A [(m0, .inr (10, [.int rz, .ref m1, .ref m2, .ref m3, .int hf, .int hs, .ref m6, .int len, .int ec, .int ep, .int pos, .int bg, .int bad, .ref m13, .ref m14, .int plc, .int sta, .ref m17, .ref m18, .ref m19, .int shm])), (m1, .inl (G.2.1.1, 670, .inl (it_X7_moves_72 w ring p0 p1 32))), (m18, .inl (G.2.1.1, 640, .inl (it_X7_moves_2 w ring p0 p1 640)))] := hD
            replace hl : lv_has ls 6 [(3, .int (nI 32)), (0, .ref m0), (1, .int p0), (2, .int p1)] := hl
            refine lv_iload_n hx hb dX7_moves_72 rfl (lv_at hl 0 rfl) ?_
            refine lv_bipush (v := 32) hx hb dX7_moves_73 (by decide) ?_
            refine lv_icmp_ge (tgt := 138) hx hb dX7_moves_75 (by decide) (fun c_2 => ?_) (fun c_2 => ?_)
            · skip
              refine lv_aload_n hx hb dX7_moves_138 rfl (lv_at hl 1 rfl) ?_
              refine va_get (D := G.1) (ci := 10) (v := .ref m1) (C := RX7) (T := TX7) (N := 21) hx hb hts in_X7 hown hK hP 0 rfl rfl 1 (by decide) (hts _ k_fl_X7_7) (fun _ h9 => h9) rfl dX7_moves_139 ?_
              refine lv_bipush (v := 22) hx hb dX7_moves_142 (by decide) ?_
              refine lv_iload_n hx hb dX7_moves_144 rfl (lv_at hl 2 rfl) ?_
              refine lv_iadd hx hb dX7_moves_145 ?_
              refine lv_dup2_11 hx hb dX7_moves_146 rfl rfl ?_
              refine va_iald hx hb hK hP 1 0 rfl rfl (by have z0 : (22 : Int32).toInt = 22 := (by decide); (try have z2 := gI_add (x := 22) (y := p0) (by omega) (by omega)); (try rw [vp_in_iff]); omega) dX7_moves_147 ?_
              refine lv_iload_n hx hb dX7_moves_148 rfl (lv_at hl 3 rfl) ?_
              refine gS (As := [.int p1]) (rest := [.int ((it_X7_moves_72 w ring p0 p1 32) (Int32.toNatClampNeg (22 + p0))), .int (22 + p0), .ref m1]) (wr := [(m0, .inr (10, [.int rz, .ref m1, .ref m2, .ref m3, .int hf, .int hs, .ref m6, .int len, .int ec, .int ep, .int pos, .int bg, .int bad, .ref m13, .ref m14, .int plc, .int sta, .ref m17, .ref m18, .ref m19, .int shm])), (m1, .inl (G.2.1.1, 670, .inl (it_X7_moves_72 w ring p0 p1 32))), (m18, .inl (G.2.1.1, 640, .inl (it_X7_moves_2 w ring p0 p1 640)))]) (ws' := [(m0, .inr (10, [.int rz, .ref m1, .ref m2, .ref m3, .int hf, .int hs, .ref m6, .int len, .int ec, .int ep, .int pos, .int bg, .int bad, .ref m13, .ref m14, .int plc, .int sta, .ref m17, .ref m18, .ref m19, .int shm])), (m1, .inl (G.2.1.1, 670, .inl (it_X7_moves_72 w ring p0 p1 32))), (m18, .inl (G.2.1.1, 640, .inl (it_X7_moves_2 w ring p0 p1 640)))]) F (c_X7_distance l G p1) okS_X7_distance k_ml_X7_233 rfl rfl ⟨Nat.le_of_ble_eq_true rfl, Nat.le_of_ble_eq_true rfl⟩ hN hK hP hD hS hA [] [0, 1, 2] [0, 1, 2] (by decide) rfl rfl (by decide) (by decide) (by decide) rfl rfl rfl hl.1 (Nat.le_of_ble_eq_true rfl) dX7_moves_149 ⟨Nat.le_refl _, Nat.le_refl _⟩ (fun H locs hP hD hS => ?_)
              refine lv_iadd hx hb dX7_moves_152 ?_
              refine va_iast hx hb hK hP hD hS 1 0 rfl rfl (by have z0 : (22 : Int32).toInt = 22 := (by decide); (try have z2 := gI_add (x := 22) (y := p0) (by omega) (by omega)); (try rw [vp_in_iff]); omega) dX7_moves_153 (fun H locs hP hD hS => ?_)
              replace hP : va_P G.1 vwCl [(m0, .inr (10, [.int rz, .ref m1, .ref m2, .ref m3, .int hf, .int hs, .ref m6, .int len, .int ec, .int ep, .int pos, .int bg, .int bad, .ref m13, .ref m14, .int plc, .int sta, .ref m17, .ref m18, .ref m19, .int shm])), (m1, .inl (G.2.1.1, 670, .inl (upd (it_X7_moves_72 w ring p0 p1 32) (Int32.toNatClampNeg (22 + p0)) (((it_X7_moves_72 w ring p0 p1 32) (Int32.toNatClampNeg (22 + p0))) + (f_X7_distance p1))))), (m18, .inl (G.2.1.1, 640, .inl (it_X7_moves_2 w ring p0 p1 640)))] H := hP
              replace hD : va_D A [(m0, .inr (10, [.int rz, .ref m1, .ref m2, .ref m3, .int hf, .int hs, .ref m6, .int len, .int ec, .int ep, .int pos, .int bg, .int bad, .ref m13, .ref m14, .int plc, .int sta, .ref m17, .ref m18, .ref m19, .int shm])), (m1, .inl (G.2.1.1, 670, .inl (upd (it_X7_moves_72 w ring p0 p1 32) (Int32.toNatClampNeg (22 + p0)) (((it_X7_moves_72 w ring p0 p1 32) (Int32.toNatClampNeg (22 + p0))) + (f_X7_distance p1))))), (m18, .inl (G.2.1.1, 640, .inl (it_X7_moves_2 w ring p0 p1 640)))] := hD
              exact gRetV F hr hlocks hK hP hD hS rfl rfl (Nat.le_of_ble_eq_true rfl) (Nat.le_of_ble_eq_true rfl) dX7_moves_154
            · exact absurd (Int32.le_refl _) c_2
          | succ fu ih =>
            intro k hk H locs hP hD hS ls hl
            have hlt_k : k < 32 := by omega
            refine lv_iload_n hx hb dX7_moves_72 rfl (lv_at hl 0 rfl) ?_
            refine lv_bipush (v := 32) hx hb dX7_moves_73 (by decide) ?_
            refine lv_icmp_ge (tgt := 138) hx hb dX7_moves_75 (by decide) (fun c_3 => ?_) (fun c_3 => ?_)
            · exact absurd c_3 (nI_ge hlt_k (by decide))
            · skip
              refine lv_iconst (v := 0) hx hb dX7_moves_78 (by decide) ?_
              refine lv_istore (lv' := [(4, .int 0), (3, .int (nI k)), (0, .ref m0), (1, .int p0), (2, .int p1)]) hx hb dX7_moves_79 hl (by decide) rfl (fun ls hl => ?_)
              refine lv_bipush (v := 19) hx hb dX7_moves_81 (by decide) ?_
              refine lv_istore (lv' := [(5, .int 19), (4, .int 0), (3, .int (nI k)), (0, .ref m0), (1, .int p0), (2, .int p1)]) hx hb dX7_moves_83 hl (by decide) rfl (fun ls hl => ?_)
              refine lv_iload hx hb dX7_moves_85 (lv_at hl 0 rfl) ?_
              refine lv_if_lt (tgt := 115) hx hb dX7_moves_87 (by decide) (fun c_4 => ?_) (fun c_4 => ?_)
              · exact absurd c_4 (by decide)
              · skip
                refine lv_iconst (v := 2) hx hb dX7_moves_90 (by decide) ?_
                refine lv_iload hx hb dX7_moves_91 (lv_at hl 1 rfl) ?_
                refine lv_imul hx hb dX7_moves_93 ?_
                refine lv_aload_n hx hb dX7_moves_94 rfl (lv_at hl 3 rfl) ?_
                refine va_get (D := G.1) (ci := 10) (v := .ref m18) (C := RX7) (T := TX7) (N := 21) hx hb hts in_X7 hown hK hP 0 rfl rfl 18 (by decide) (hts _ k_fl_X7_69) (fun _ h9 => h9) rfl dX7_moves_95 ?_
                refine lv_bipush (v := 20) hx hb dX7_moves_98 (by decide) ?_
                refine lv_iload_n hx hb dX7_moves_100 rfl (lv_at hl 2 rfl) ?_
                refine lv_imul hx hb dX7_moves_101 ?_
                refine lv_iload hx hb dX7_moves_102 (lv_at hl 0 rfl) ?_
                refine lv_iadd hx hb dX7_moves_104 ?_
                refine va_iald hx hb hK hP 2 0 rfl rfl (by have z0 : (20 : Int32).toInt = 20 := (by decide); have z1 := nI_toInt (n := k) (by omega); (try have z2 := gI_mul (x := 20) (y := (nI k)) (by (try rw [z0]); (try rw [z1]); omega) (by (try rw [z0]); (try rw [z1]); omega)); (try rw [z0, z1] at z2); (try rw [z0] at z2); (try rw [z1] at z2); have z3 : (19 : Int32).toInt = 19 := (by decide); (try have z4 := gI_add (x := (20 * (nI k))) (y := 19) (by omega) (by omega)); (try rw [vp_in_iff]); omega) dX7_moves_105 ?_
                refine lv_iadd hx hb dX7_moves_106 ?_
                refine lv_istore (lv' := [(4, .int ((2 * 0) + ((it_X7_moves_2 w ring p0 p1 640) (Int32.toNatClampNeg ((20 * (nI k)) + 19))))), (5, .int 19), (3, .int (nI k)), (0, .ref m0), (1, .int p0), (2, .int p1)]) hx hb dX7_moves_107 hl (by decide) rfl (fun ls hl => ?_)
                refine lv_iinc (v := 18) (lv' := [(5, .int 18), (4, .int ((2 * 0) + ((it_X7_moves_2 w ring p0 p1 640) (Int32.toNatClampNeg ((20 * (nI k)) + 19))))), (3, .int (nI k)), (0, .ref m0), (1, .int p0), (2, .int p1)]) hx hb dX7_moves_109 hl (k := 1) rfl rfl (by decide) rfl (fun ls hl => ?_)
                refine lv_goto (tgt := 85) hx hb dX7_moves_112 (by decide) ?_
                refine lv_iload hx hb dX7_moves_85 (lv_at hl 0 rfl) ?_
                refine lv_if_lt (tgt := 115) hx hb dX7_moves_87 (by decide) (fun c_5 => ?_) (fun c_5 => ?_)
                · exact absurd c_5 (by decide)
                · skip
                  refine lv_iconst (v := 2) hx hb dX7_moves_90 (by decide) ?_
                  refine lv_iload hx hb dX7_moves_91 (lv_at hl 1 rfl) ?_
                  refine lv_imul hx hb dX7_moves_93 ?_
                  refine lv_aload_n hx hb dX7_moves_94 rfl (lv_at hl 3 rfl) ?_
                  refine va_get (D := G.1) (ci := 10) (v := .ref m18) (C := RX7) (T := TX7) (N := 21) hx hb hts in_X7 hown hK hP 0 rfl rfl 18 (by decide) (hts _ k_fl_X7_69) (fun _ h9 => h9) rfl dX7_moves_95 ?_
                  refine lv_bipush (v := 20) hx hb dX7_moves_98 (by decide) ?_
                  refine lv_iload_n hx hb dX7_moves_100 rfl (lv_at hl 2 rfl) ?_
                  refine lv_imul hx hb dX7_moves_101 ?_
                  refine lv_iload hx hb dX7_moves_102 (lv_at hl 0 rfl) ?_
                  refine lv_iadd hx hb dX7_moves_104 ?_
                  refine va_iald hx hb hK hP 2 0 rfl rfl (by have z0 : (20 : Int32).toInt = 20 := (by decide); have z1 := nI_toInt (n := k) (by omega); (try have z2 := gI_mul (x := 20) (y := (nI k)) (by (try rw [z0]); (try rw [z1]); omega) (by (try rw [z0]); (try rw [z1]); omega)); (try rw [z0, z1] at z2); (try rw [z0] at z2); (try rw [z1] at z2); have z3 : (18 : Int32).toInt = 18 := (by decide); (try have z4 := gI_add (x := (20 * (nI k))) (y := 18) (by omega) (by omega)); (try rw [vp_in_iff]); omega) dX7_moves_105 ?_
                  refine lv_iadd hx hb dX7_moves_106 ?_
                  refine lv_istore (lv' := [(4, .int ((2 * ((2 * 0) + ((it_X7_moves_2 w ring p0 p1 640) (Int32.toNatClampNeg ((20 * (nI k)) + 19))))) + ((it_X7_moves_2 w ring p0 p1 640) (Int32.toNatClampNeg ((20 * (nI k)) + 18))))), (5, .int 18), (3, .int (nI k)), (0, .ref m0), (1, .int p0), (2, .int p1)]) hx hb dX7_moves_107 hl (by decide) rfl (fun ls hl => ?_)
                  refine lv_iinc (v := 17) (lv' := [(5, .int 17), (4, .int ((2 * ((2 * 0) + ((it_X7_moves_2 w ring p0 p1 640) (Int32.toNatClampNeg ((20 * (nI k)) + 19))))) + ((it_X7_moves_2 w ring p0 p1 640) (Int32.toNatClampNeg ((20 * (nI k)) + 18))))), (3, .int (nI k)), (0, .ref m0), (1, .int p0), (2, .int p1)]) hx hb dX7_moves_109 hl (k := 1) rfl rfl (by decide) rfl (fun ls hl => ?_)
                  refine lv_goto (tgt := 85) hx hb dX7_moves_112 (by decide) ?_
                  refine lv_iload hx hb dX7_moves_85 (lv_at hl 0 rfl) ?_
                  refine lv_if_lt (tgt := 115) hx hb dX7_moves_87 (by decide) (fun c_6 => ?_) (fun c_6 => ?_)
                  · exact absurd c_6 (by decide)
                  · skip
                    refine lv_iconst (v := 2) hx hb dX7_moves_90 (by decide) ?_
                    refine lv_iload hx hb dX7_moves_91 (lv_at hl 1 rfl) ?_
                    refine lv_imul hx hb dX7_moves_93 ?_
                    refine lv_aload_n hx hb dX7_moves_94 rfl (lv_at hl 3 rfl) ?_
                    refine va_get (D := G.1) (ci := 10) (v := .ref m18) (C := RX7) (T := TX7) (N := 21) hx hb hts in_X7 hown hK hP 0 rfl rfl 18 (by decide) (hts _ k_fl_X7_69) (fun _ h9 => h9) rfl dX7_moves_95 ?_
                    refine lv_bipush (v := 20) hx hb dX7_moves_98 (by decide) ?_
                    refine lv_iload_n hx hb dX7_moves_100 rfl (lv_at hl 2 rfl) ?_
                    refine lv_imul hx hb dX7_moves_101 ?_
                    refine lv_iload hx hb dX7_moves_102 (lv_at hl 0 rfl) ?_
                    refine lv_iadd hx hb dX7_moves_104 ?_
                    refine va_iald hx hb hK hP 2 0 rfl rfl (by have z0 : (20 : Int32).toInt = 20 := (by decide); have z1 := nI_toInt (n := k) (by omega); (try have z2 := gI_mul (x := 20) (y := (nI k)) (by (try rw [z0]); (try rw [z1]); omega) (by (try rw [z0]); (try rw [z1]); omega)); (try rw [z0, z1] at z2); (try rw [z0] at z2); (try rw [z1] at z2); have z3 : (17 : Int32).toInt = 17 := (by decide); (try have z4 := gI_add (x := (20 * (nI k))) (y := 17) (by omega) (by omega)); (try rw [vp_in_iff]); omega) dX7_moves_105 ?_
                    refine lv_iadd hx hb dX7_moves_106 ?_
                    refine lv_istore (lv' := [(4, .int ((2 * ((2 * ((2 * 0) + ((it_X7_moves_2 w ring p0 p1 640) (Int32.toNatClampNeg ((20 * (nI k)) + 19))))) + ((it_X7_moves_2 w ring p0 p1 640) (Int32.toNatClampNeg ((20 * (nI k)) + 18))))) + ((it_X7_moves_2 w ring p0 p1 640) (Int32.toNatClampNeg ((20 * (nI k)) + 17))))), (5, .int 17), (3, .int (nI k)), (0, .ref m0), (1, .int p0), (2, .int p1)]) hx hb dX7_moves_107 hl (by decide) rfl (fun ls hl => ?_)
                    refine lv_iinc (v := 16) (lv' := [(5, .int 16), (4, .int ((2 * ((2 * ((2 * 0) + ((it_X7_moves_2 w ring p0 p1 640) (Int32.toNatClampNeg ((20 * (nI k)) + 19))))) + ((it_X7_moves_2 w ring p0 p1 640) (Int32.toNatClampNeg ((20 * (nI k)) + 18))))) + ((it_X7_moves_2 w ring p0 p1 640) (Int32.toNatClampNeg ((20 * (nI k)) + 17))))), (3, .int (nI k)), (0, .ref m0), (1, .int p0), (2, .int p1)]) hx hb dX7_moves_109 hl (k := 1) rfl rfl (by decide) rfl (fun ls hl => ?_)
                    refine lv_goto (tgt := 85) hx hb dX7_moves_112 (by decide) ?_
                    refine lv_iload hx hb dX7_moves_85 (lv_at hl 0 rfl) ?_
                    refine lv_if_lt (tgt := 115) hx hb dX7_moves_87 (by decide) (fun c_7 => ?_) (fun c_7 => ?_)
                    · exact absurd c_7 (by decide)
                    · skip
                      refine lv_iconst (v := 2) hx hb dX7_moves_90 (by decide) ?_
                      refine lv_iload hx hb dX7_moves_91 (lv_at hl 1 rfl) ?_
                      refine lv_imul hx hb dX7_moves_93 ?_
                      refine lv_aload_n hx hb dX7_moves_94 rfl (lv_at hl 3 rfl) ?_
                      refine va_get (D := G.1) (ci := 10) (v := .ref m18) (C := RX7) (T := TX7) (N := 21) hx hb hts in_X7 hown hK hP 0 rfl rfl 18 (by decide) (hts _ k_fl_X7_69) (fun _ h9 => h9) rfl dX7_moves_95 ?_
                      refine lv_bipush (v := 20) hx hb dX7_moves_98 (by decide) ?_
                      refine lv_iload_n hx hb dX7_moves_100 rfl (lv_at hl 2 rfl) ?_
                      refine lv_imul hx hb dX7_moves_101 ?_
                      refine lv_iload hx hb dX7_moves_102 (lv_at hl 0 rfl) ?_
                      refine lv_iadd hx hb dX7_moves_104 ?_
                      refine va_iald hx hb hK hP 2 0 rfl rfl (by have z0 : (20 : Int32).toInt = 20 := (by decide); have z1 := nI_toInt (n := k) (by omega); (try have z2 := gI_mul (x := 20) (y := (nI k)) (by (try rw [z0]); (try rw [z1]); omega) (by (try rw [z0]); (try rw [z1]); omega)); (try rw [z0, z1] at z2); (try rw [z0] at z2); (try rw [z1] at z2); have z3 : (16 : Int32).toInt = 16 := (by decide); (try have z4 := gI_add (x := (20 * (nI k))) (y := 16) (by omega) (by omega)); (try rw [vp_in_iff]); omega) dX7_moves_105 ?_
                      refine lv_iadd hx hb dX7_moves_106 ?_
                      refine lv_istore (lv' := [(4, .int ((2 * ((2 * ((2 * ((2 * 0) + ((it_X7_moves_2 w ring p0 p1 640) (Int32.toNatClampNeg ((20 * (nI k)) + 19))))) + ((it_X7_moves_2 w ring p0 p1 640) (Int32.toNatClampNeg ((20 * (nI k)) + 18))))) + ((it_X7_moves_2 w ring p0 p1 640) (Int32.toNatClampNeg ((20 * (nI k)) + 17))))) + ((it_X7_moves_2 w ring p0 p1 640) (Int32.toNatClampNeg ((20 * (nI k)) + 16))))), (5, .int 16), (3, .int (nI k)), (0, .ref m0), (1, .int p0), (2, .int p1)]) hx hb dX7_moves_107 hl (by decide) rfl (fun ls hl => ?_)
                      refine lv_iinc (v := 15) (lv' := [(5, .int 15), (4, .int ((2 * ((2 * ((2 * ((2 * 0) + ((it_X7_moves_2 w ring p0 p1 640) (Int32.toNatClampNeg ((20 * (nI k)) + 19))))) + ((it_X7_moves_2 w ring p0 p1 640) (Int32.toNatClampNeg ((20 * (nI k)) + 18))))) + ((it_X7_moves_2 w ring p0 p1 640) (Int32.toNatClampNeg ((20 * (nI k)) + 17))))) + ((it_X7_moves_2 w ring p0 p1 640) (Int32.toNatClampNeg ((20 * (nI k)) + 16))))), (3, .int (nI k)), (0, .ref m0), (1, .int p0), (2, .int p1)]) hx hb dX7_moves_109 hl (k := 1) rfl rfl (by decide) rfl (fun ls hl => ?_)
                      refine lv_goto (tgt := 85) hx hb dX7_moves_112 (by decide) ?_
                      refine lv_iload hx hb dX7_moves_85 (lv_at hl 0 rfl) ?_
                      refine lv_if_lt (tgt := 115) hx hb dX7_moves_87 (by decide) (fun c_8 => ?_) (fun c_8 => ?_)
                      · exact absurd c_8 (by decide)
                      · skip
                        refine lv_iconst (v := 2) hx hb dX7_moves_90 (by decide) ?_
                        refine lv_iload hx hb dX7_moves_91 (lv_at hl 1 rfl) ?_
                        refine lv_imul hx hb dX7_moves_93 ?_
                        refine lv_aload_n hx hb dX7_moves_94 rfl (lv_at hl 3 rfl) ?_
                        refine va_get (D := G.1) (ci := 10) (v := .ref m18) (C := RX7) (T := TX7) (N := 21) hx hb hts in_X7 hown hK hP 0 rfl rfl 18 (by decide) (hts _ k_fl_X7_69) (fun _ h9 => h9) rfl dX7_moves_95 ?_
                        refine lv_bipush (v := 20) hx hb dX7_moves_98 (by decide) ?_
                        refine lv_iload_n hx hb dX7_moves_100 rfl (lv_at hl 2 rfl) ?_
                        refine lv_imul hx hb dX7_moves_101 ?_
                        refine lv_iload hx hb dX7_moves_102 (lv_at hl 0 rfl) ?_
                        refine lv_iadd hx hb dX7_moves_104 ?_
                        refine va_iald hx hb hK hP 2 0 rfl rfl (by have z0 : (20 : Int32).toInt = 20 := (by decide); have z1 := nI_toInt (n := k) (by omega); (try have z2 := gI_mul (x := 20) (y := (nI k)) (by (try rw [z0]); (try rw [z1]); omega) (by (try rw [z0]); (try rw [z1]); omega)); (try rw [z0, z1] at z2); (try rw [z0] at z2); (try rw [z1] at z2); have z3 : (15 : Int32).toInt = 15 := (by decide); (try have z4 := gI_add (x := (20 * (nI k))) (y := 15) (by omega) (by omega)); (try rw [vp_in_iff]); omega) dX7_moves_105 ?_
                        refine lv_iadd hx hb dX7_moves_106 ?_
                        refine lv_istore (lv' := [(4, .int ((2 * ((2 * ((2 * ((2 * ((2 * 0) + ((it_X7_moves_2 w ring p0 p1 640) (Int32.toNatClampNeg ((20 * (nI k)) + 19))))) + ((it_X7_moves_2 w ring p0 p1 640) (Int32.toNatClampNeg ((20 * (nI k)) + 18))))) + ((it_X7_moves_2 w ring p0 p1 640) (Int32.toNatClampNeg ((20 * (nI k)) + 17))))) + ((it_X7_moves_2 w ring p0 p1 640) (Int32.toNatClampNeg ((20 * (nI k)) + 16))))) + ((it_X7_moves_2 w ring p0 p1 640) (Int32.toNatClampNeg ((20 * (nI k)) + 15))))), (5, .int 15), (3, .int (nI k)), (0, .ref m0), (1, .int p0), (2, .int p1)]) hx hb dX7_moves_107 hl (by decide) rfl (fun ls hl => ?_)
                        refine lv_iinc (v := 14) (lv' := [(5, .int 14), (4, .int ((2 * ((2 * ((2 * ((2 * ((2 * 0) + ((it_X7_moves_2 w ring p0 p1 640) (Int32.toNatClampNeg ((20 * (nI k)) + 19))))) + ((it_X7_moves_2 w ring p0 p1 640) (Int32.toNatClampNeg ((20 * (nI k)) + 18))))) + ((it_X7_moves_2 w ring p0 p1 640) (Int32.toNatClampNeg ((20 * (nI k)) + 17))))) + ((it_X7_moves_2 w ring p0 p1 640) (Int32.toNatClampNeg ((20 * (nI k)) + 16))))) + ((it_X7_moves_2 w ring p0 p1 640) (Int32.toNatClampNeg ((20 * (nI k)) + 15))))), (3, .int (nI k)), (0, .ref m0), (1, .int p0), (2, .int p1)]) hx hb dX7_moves_109 hl (k := 1) rfl rfl (by decide) rfl (fun ls hl => ?_)
                        refine lv_goto (tgt := 85) hx hb dX7_moves_112 (by decide) ?_
                        refine lv_iload hx hb dX7_moves_85 (lv_at hl 0 rfl) ?_
                        refine lv_if_lt (tgt := 115) hx hb dX7_moves_87 (by decide) (fun c_9 => ?_) (fun c_9 => ?_)
                        · exact absurd c_9 (by decide)
                        · skip
                          refine lv_iconst (v := 2) hx hb dX7_moves_90 (by decide) ?_
                          refine lv_iload hx hb dX7_moves_91 (lv_at hl 1 rfl) ?_
                          refine lv_imul hx hb dX7_moves_93 ?_
                          refine lv_aload_n hx hb dX7_moves_94 rfl (lv_at hl 3 rfl) ?_
                          refine va_get (D := G.1) (ci := 10) (v := .ref m18) (C := RX7) (T := TX7) (N := 21) hx hb hts in_X7 hown hK hP 0 rfl rfl 18 (by decide) (hts _ k_fl_X7_69) (fun _ h9 => h9) rfl dX7_moves_95 ?_
                          refine lv_bipush (v := 20) hx hb dX7_moves_98 (by decide) ?_
                          refine lv_iload_n hx hb dX7_moves_100 rfl (lv_at hl 2 rfl) ?_
                          refine lv_imul hx hb dX7_moves_101 ?_
                          refine lv_iload hx hb dX7_moves_102 (lv_at hl 0 rfl) ?_
                          refine lv_iadd hx hb dX7_moves_104 ?_
                          refine va_iald hx hb hK hP 2 0 rfl rfl (by have z0 : (20 : Int32).toInt = 20 := (by decide); have z1 := nI_toInt (n := k) (by omega); (try have z2 := gI_mul (x := 20) (y := (nI k)) (by (try rw [z0]); (try rw [z1]); omega) (by (try rw [z0]); (try rw [z1]); omega)); (try rw [z0, z1] at z2); (try rw [z0] at z2); (try rw [z1] at z2); have z3 : (14 : Int32).toInt = 14 := (by decide); (try have z4 := gI_add (x := (20 * (nI k))) (y := 14) (by omega) (by omega)); (try rw [vp_in_iff]); omega) dX7_moves_105 ?_
                          refine lv_iadd hx hb dX7_moves_106 ?_
                          refine lv_istore (lv' := [(4, .int ((2 * ((2 * ((2 * ((2 * ((2 * ((2 * 0) + ((it_X7_moves_2 w ring p0 p1 640) (Int32.toNatClampNeg ((20 * (nI k)) + 19))))) + ((it_X7_moves_2 w ring p0 p1 640) (Int32.toNatClampNeg ((20 * (nI k)) + 18))))) + ((it_X7_moves_2 w ring p0 p1 640) (Int32.toNatClampNeg ((20 * (nI k)) + 17))))) + ((it_X7_moves_2 w ring p0 p1 640) (Int32.toNatClampNeg ((20 * (nI k)) + 16))))) + ((it_X7_moves_2 w ring p0 p1 640) (Int32.toNatClampNeg ((20 * (nI k)) + 15))))) + ((it_X7_moves_2 w ring p0 p1 640) (Int32.toNatClampNeg ((20 * (nI k)) + 14))))), (5, .int 14), (3, .int (nI k)), (0, .ref m0), (1, .int p0), (2, .int p1)]) hx hb dX7_moves_107 hl (by decide) rfl (fun ls hl => ?_)
                          refine lv_iinc (v := 13) (lv' := [(5, .int 13), (4, .int ((2 * ((2 * ((2 * ((2 * ((2 * ((2 * 0) + ((it_X7_moves_2 w ring p0 p1 640) (Int32.toNatClampNeg ((20 * (nI k)) + 19))))) + ((it_X7_moves_2 w ring p0 p1 640) (Int32.toNatClampNeg ((20 * (nI k)) + 18))))) + ((it_X7_moves_2 w ring p0 p1 640) (Int32.toNatClampNeg ((20 * (nI k)) + 17))))) + ((it_X7_moves_2 w ring p0 p1 640) (Int32.toNatClampNeg ((20 * (nI k)) + 16))))) + ((it_X7_moves_2 w ring p0 p1 640) (Int32.toNatClampNeg ((20 * (nI k)) + 15))))) + ((it_X7_moves_2 w ring p0 p1 640) (Int32.toNatClampNeg ((20 * (nI k)) + 14))))), (3, .int (nI k)), (0, .ref m0), (1, .int p0), (2, .int p1)]) hx hb dX7_moves_109 hl (k := 1) rfl rfl (by decide) rfl (fun ls hl => ?_)
                          refine lv_goto (tgt := 85) hx hb dX7_moves_112 (by decide) ?_
                          refine lv_iload hx hb dX7_moves_85 (lv_at hl 0 rfl) ?_
                          refine lv_if_lt (tgt := 115) hx hb dX7_moves_87 (by decide) (fun c_10 => ?_) (fun c_10 => ?_)
                          · exact absurd c_10 (by decide)
                          · skip
                            refine lv_iconst (v := 2) hx hb dX7_moves_90 (by decide) ?_
                            refine lv_iload hx hb dX7_moves_91 (lv_at hl 1 rfl) ?_
                            refine lv_imul hx hb dX7_moves_93 ?_
                            refine lv_aload_n hx hb dX7_moves_94 rfl (lv_at hl 3 rfl) ?_
                            refine va_get (D := G.1) (ci := 10) (v := .ref m18) (C := RX7) (T := TX7) (N := 21) hx hb hts in_X7 hown hK hP 0 rfl rfl 18 (by decide) (hts _ k_fl_X7_69) (fun _ h9 => h9) rfl dX7_moves_95 ?_
                            refine lv_bipush (v := 20) hx hb dX7_moves_98 (by decide) ?_
                            refine lv_iload_n hx hb dX7_moves_100 rfl (lv_at hl 2 rfl) ?_
                            refine lv_imul hx hb dX7_moves_101 ?_
                            refine lv_iload hx hb dX7_moves_102 (lv_at hl 0 rfl) ?_
                            refine lv_iadd hx hb dX7_moves_104 ?_
                            refine va_iald hx hb hK hP 2 0 rfl rfl (by have z0 : (20 : Int32).toInt = 20 := (by decide); have z1 := nI_toInt (n := k) (by omega); (try have z2 := gI_mul (x := 20) (y := (nI k)) (by (try rw [z0]); (try rw [z1]); omega) (by (try rw [z0]); (try rw [z1]); omega)); (try rw [z0, z1] at z2); (try rw [z0] at z2); (try rw [z1] at z2); have z3 : (13 : Int32).toInt = 13 := (by decide); (try have z4 := gI_add (x := (20 * (nI k))) (y := 13) (by omega) (by omega)); (try rw [vp_in_iff]); omega) dX7_moves_105 ?_
                            refine lv_iadd hx hb dX7_moves_106 ?_
                            refine lv_istore (lv' := [(4, .int ((2 * ((2 * ((2 * ((2 * ((2 * ((2 * ((2 * 0) + ((it_X7_moves_2 w ring p0 p1 640) (Int32.toNatClampNeg ((20 * (nI k)) + 19))))) + ((it_X7_moves_2 w ring p0 p1 640) (Int32.toNatClampNeg ((20 * (nI k)) + 18))))) + ((it_X7_moves_2 w ring p0 p1 640) (Int32.toNatClampNeg ((20 * (nI k)) + 17))))) + ((it_X7_moves_2 w ring p0 p1 640) (Int32.toNatClampNeg ((20 * (nI k)) + 16))))) + ((it_X7_moves_2 w ring p0 p1 640) (Int32.toNatClampNeg ((20 * (nI k)) + 15))))) + ((it_X7_moves_2 w ring p0 p1 640) (Int32.toNatClampNeg ((20 * (nI k)) + 14))))) + ((it_X7_moves_2 w ring p0 p1 640) (Int32.toNatClampNeg ((20 * (nI k)) + 13))))), (5, .int 13), (3, .int (nI k)), (0, .ref m0), (1, .int p0), (2, .int p1)]) hx hb dX7_moves_107 hl (by decide) rfl (fun ls hl => ?_)
                            refine lv_iinc (v := 12) (lv' := [(5, .int 12), (4, .int ((2 * ((2 * ((2 * ((2 * ((2 * ((2 * ((2 * 0) + ((it_X7_moves_2 w ring p0 p1 640) (Int32.toNatClampNeg ((20 * (nI k)) + 19))))) + ((it_X7_moves_2 w ring p0 p1 640) (Int32.toNatClampNeg ((20 * (nI k)) + 18))))) + ((it_X7_moves_2 w ring p0 p1 640) (Int32.toNatClampNeg ((20 * (nI k)) + 17))))) + ((it_X7_moves_2 w ring p0 p1 640) (Int32.toNatClampNeg ((20 * (nI k)) + 16))))) + ((it_X7_moves_2 w ring p0 p1 640) (Int32.toNatClampNeg ((20 * (nI k)) + 15))))) + ((it_X7_moves_2 w ring p0 p1 640) (Int32.toNatClampNeg ((20 * (nI k)) + 14))))) + ((it_X7_moves_2 w ring p0 p1 640) (Int32.toNatClampNeg ((20 * (nI k)) + 13))))), (3, .int (nI k)), (0, .ref m0), (1, .int p0), (2, .int p1)]) hx hb dX7_moves_109 hl (k := 1) rfl rfl (by decide) rfl (fun ls hl => ?_)
                            refine lv_goto (tgt := 85) hx hb dX7_moves_112 (by decide) ?_
                            refine lv_iload hx hb dX7_moves_85 (lv_at hl 0 rfl) ?_
                            refine lv_if_lt (tgt := 115) hx hb dX7_moves_87 (by decide) (fun c_11 => ?_) (fun c_11 => ?_)
                            · exact absurd c_11 (by decide)
                            · skip
                              refine lv_iconst (v := 2) hx hb dX7_moves_90 (by decide) ?_
                              refine lv_iload hx hb dX7_moves_91 (lv_at hl 1 rfl) ?_
                              refine lv_imul hx hb dX7_moves_93 ?_
                              refine lv_aload_n hx hb dX7_moves_94 rfl (lv_at hl 3 rfl) ?_
                              refine va_get (D := G.1) (ci := 10) (v := .ref m18) (C := RX7) (T := TX7) (N := 21) hx hb hts in_X7 hown hK hP 0 rfl rfl 18 (by decide) (hts _ k_fl_X7_69) (fun _ h9 => h9) rfl dX7_moves_95 ?_
                              refine lv_bipush (v := 20) hx hb dX7_moves_98 (by decide) ?_
                              refine lv_iload_n hx hb dX7_moves_100 rfl (lv_at hl 2 rfl) ?_
                              refine lv_imul hx hb dX7_moves_101 ?_
                              refine lv_iload hx hb dX7_moves_102 (lv_at hl 0 rfl) ?_
                              refine lv_iadd hx hb dX7_moves_104 ?_
                              refine va_iald hx hb hK hP 2 0 rfl rfl (by have z0 : (20 : Int32).toInt = 20 := (by decide); have z1 := nI_toInt (n := k) (by omega); (try have z2 := gI_mul (x := 20) (y := (nI k)) (by (try rw [z0]); (try rw [z1]); omega) (by (try rw [z0]); (try rw [z1]); omega)); (try rw [z0, z1] at z2); (try rw [z0] at z2); (try rw [z1] at z2); have z3 : (12 : Int32).toInt = 12 := (by decide); (try have z4 := gI_add (x := (20 * (nI k))) (y := 12) (by omega) (by omega)); (try rw [vp_in_iff]); omega) dX7_moves_105 ?_
                              refine lv_iadd hx hb dX7_moves_106 ?_
                              refine lv_istore (lv' := [(4, .int ((2 * ((2 * ((2 * ((2 * ((2 * ((2 * ((2 * ((2 * 0) + ((it_X7_moves_2 w ring p0 p1 640) (Int32.toNatClampNeg ((20 * (nI k)) + 19))))) + ((it_X7_moves_2 w ring p0 p1 640) (Int32.toNatClampNeg ((20 * (nI k)) + 18))))) + ((it_X7_moves_2 w ring p0 p1 640) (Int32.toNatClampNeg ((20 * (nI k)) + 17))))) + ((it_X7_moves_2 w ring p0 p1 640) (Int32.toNatClampNeg ((20 * (nI k)) + 16))))) + ((it_X7_moves_2 w ring p0 p1 640) (Int32.toNatClampNeg ((20 * (nI k)) + 15))))) + ((it_X7_moves_2 w ring p0 p1 640) (Int32.toNatClampNeg ((20 * (nI k)) + 14))))) + ((it_X7_moves_2 w ring p0 p1 640) (Int32.toNatClampNeg ((20 * (nI k)) + 13))))) + ((it_X7_moves_2 w ring p0 p1 640) (Int32.toNatClampNeg ((20 * (nI k)) + 12))))), (5, .int 12), (3, .int (nI k)), (0, .ref m0), (1, .int p0), (2, .int p1)]) hx hb dX7_moves_107 hl (by decide) rfl (fun ls hl => ?_)
                              refine lv_iinc (v := 11) (lv' := [(5, .int 11), (4, .int ((2 * ((2 * ((2 * ((2 * ((2 * ((2 * ((2 * ((2 * 0) + ((it_X7_moves_2 w ring p0 p1 640) (Int32.toNatClampNeg ((20 * (nI k)) + 19))))) + ((it_X7_moves_2 w ring p0 p1 640) (Int32.toNatClampNeg ((20 * (nI k)) + 18))))) + ((it_X7_moves_2 w ring p0 p1 640) (Int32.toNatClampNeg ((20 * (nI k)) + 17))))) + ((it_X7_moves_2 w ring p0 p1 640) (Int32.toNatClampNeg ((20 * (nI k)) + 16))))) + ((it_X7_moves_2 w ring p0 p1 640) (Int32.toNatClampNeg ((20 * (nI k)) + 15))))) + ((it_X7_moves_2 w ring p0 p1 640) (Int32.toNatClampNeg ((20 * (nI k)) + 14))))) + ((it_X7_moves_2 w ring p0 p1 640) (Int32.toNatClampNeg ((20 * (nI k)) + 13))))) + ((it_X7_moves_2 w ring p0 p1 640) (Int32.toNatClampNeg ((20 * (nI k)) + 12))))), (3, .int (nI k)), (0, .ref m0), (1, .int p0), (2, .int p1)]) hx hb dX7_moves_109 hl (k := 1) rfl rfl (by decide) rfl (fun ls hl => ?_)
                              refine lv_goto (tgt := 85) hx hb dX7_moves_112 (by decide) ?_
                              refine lv_iload hx hb dX7_moves_85 (lv_at hl 0 rfl) ?_
                              refine lv_if_lt (tgt := 115) hx hb dX7_moves_87 (by decide) (fun c_12 => ?_) (fun c_12 => ?_)
                              · exact absurd c_12 (by decide)
                              · skip
                                refine lv_iconst (v := 2) hx hb dX7_moves_90 (by decide) ?_
                                refine lv_iload hx hb dX7_moves_91 (lv_at hl 1 rfl) ?_
                                refine lv_imul hx hb dX7_moves_93 ?_
                                refine lv_aload_n hx hb dX7_moves_94 rfl (lv_at hl 3 rfl) ?_
                                refine va_get (D := G.1) (ci := 10) (v := .ref m18) (C := RX7) (T := TX7) (N := 21) hx hb hts in_X7 hown hK hP 0 rfl rfl 18 (by decide) (hts _ k_fl_X7_69) (fun _ h9 => h9) rfl dX7_moves_95 ?_
                                refine lv_bipush (v := 20) hx hb dX7_moves_98 (by decide) ?_
                                refine lv_iload_n hx hb dX7_moves_100 rfl (lv_at hl 2 rfl) ?_
                                refine lv_imul hx hb dX7_moves_101 ?_
                                refine lv_iload hx hb dX7_moves_102 (lv_at hl 0 rfl) ?_
                                refine lv_iadd hx hb dX7_moves_104 ?_
                                refine va_iald hx hb hK hP 2 0 rfl rfl (by have z0 : (20 : Int32).toInt = 20 := (by decide); have z1 := nI_toInt (n := k) (by omega); (try have z2 := gI_mul (x := 20) (y := (nI k)) (by (try rw [z0]); (try rw [z1]); omega) (by (try rw [z0]); (try rw [z1]); omega)); (try rw [z0, z1] at z2); (try rw [z0] at z2); (try rw [z1] at z2); have z3 : (11 : Int32).toInt = 11 := (by decide); (try have z4 := gI_add (x := (20 * (nI k))) (y := 11) (by omega) (by omega)); (try rw [vp_in_iff]); omega) dX7_moves_105 ?_
                                refine lv_iadd hx hb dX7_moves_106 ?_
                                refine lv_istore (lv' := [(4, .int ((2 * ((2 * ((2 * ((2 * ((2 * ((2 * ((2 * ((2 * ((2 * 0) + ((it_X7_moves_2 w ring p0 p1 640) (Int32.toNatClampNeg ((20 * (nI k)) + 19))))) + ((it_X7_moves_2 w ring p0 p1 640) (Int32.toNatClampNeg ((20 * (nI k)) + 18))))) + ((it_X7_moves_2 w ring p0 p1 640) (Int32.toNatClampNeg ((20 * (nI k)) + 17))))) + ((it_X7_moves_2 w ring p0 p1 640) (Int32.toNatClampNeg ((20 * (nI k)) + 16))))) + ((it_X7_moves_2 w ring p0 p1 640) (Int32.toNatClampNeg ((20 * (nI k)) + 15))))) + ((it_X7_moves_2 w ring p0 p1 640) (Int32.toNatClampNeg ((20 * (nI k)) + 14))))) + ((it_X7_moves_2 w ring p0 p1 640) (Int32.toNatClampNeg ((20 * (nI k)) + 13))))) + ((it_X7_moves_2 w ring p0 p1 640) (Int32.toNatClampNeg ((20 * (nI k)) + 12))))) + ((it_X7_moves_2 w ring p0 p1 640) (Int32.toNatClampNeg ((20 * (nI k)) + 11))))), (5, .int 11), (3, .int (nI k)), (0, .ref m0), (1, .int p0), (2, .int p1)]) hx hb dX7_moves_107 hl (by decide) rfl (fun ls hl => ?_)
                                refine lv_iinc (v := 10) (lv' := [(5, .int 10), (4, .int ((2 * ((2 * ((2 * ((2 * ((2 * ((2 * ((2 * ((2 * ((2 * 0) + ((it_X7_moves_2 w ring p0 p1 640) (Int32.toNatClampNeg ((20 * (nI k)) + 19))))) + ((it_X7_moves_2 w ring p0 p1 640) (Int32.toNatClampNeg ((20 * (nI k)) + 18))))) + ((it_X7_moves_2 w ring p0 p1 640) (Int32.toNatClampNeg ((20 * (nI k)) + 17))))) + ((it_X7_moves_2 w ring p0 p1 640) (Int32.toNatClampNeg ((20 * (nI k)) + 16))))) + ((it_X7_moves_2 w ring p0 p1 640) (Int32.toNatClampNeg ((20 * (nI k)) + 15))))) + ((it_X7_moves_2 w ring p0 p1 640) (Int32.toNatClampNeg ((20 * (nI k)) + 14))))) + ((it_X7_moves_2 w ring p0 p1 640) (Int32.toNatClampNeg ((20 * (nI k)) + 13))))) + ((it_X7_moves_2 w ring p0 p1 640) (Int32.toNatClampNeg ((20 * (nI k)) + 12))))) + ((it_X7_moves_2 w ring p0 p1 640) (Int32.toNatClampNeg ((20 * (nI k)) + 11))))), (3, .int (nI k)), (0, .ref m0), (1, .int p0), (2, .int p1)]) hx hb dX7_moves_109 hl (k := 1) rfl rfl (by decide) rfl (fun ls hl => ?_)
                                refine lv_goto (tgt := 85) hx hb dX7_moves_112 (by decide) ?_
                                refine lv_iload hx hb dX7_moves_85 (lv_at hl 0 rfl) ?_
                                refine lv_if_lt (tgt := 115) hx hb dX7_moves_87 (by decide) (fun c_13 => ?_) (fun c_13 => ?_)
                                · exact absurd c_13 (by decide)
                                · skip
                                  refine lv_iconst (v := 2) hx hb dX7_moves_90 (by decide) ?_
                                  refine lv_iload hx hb dX7_moves_91 (lv_at hl 1 rfl) ?_
                                  refine lv_imul hx hb dX7_moves_93 ?_
                                  refine lv_aload_n hx hb dX7_moves_94 rfl (lv_at hl 3 rfl) ?_
                                  refine va_get (D := G.1) (ci := 10) (v := .ref m18) (C := RX7) (T := TX7) (N := 21) hx hb hts in_X7 hown hK hP 0 rfl rfl 18 (by decide) (hts _ k_fl_X7_69) (fun _ h9 => h9) rfl dX7_moves_95 ?_
                                  refine lv_bipush (v := 20) hx hb dX7_moves_98 (by decide) ?_
                                  refine lv_iload_n hx hb dX7_moves_100 rfl (lv_at hl 2 rfl) ?_
                                  refine lv_imul hx hb dX7_moves_101 ?_
                                  refine lv_iload hx hb dX7_moves_102 (lv_at hl 0 rfl) ?_
                                  refine lv_iadd hx hb dX7_moves_104 ?_
                                  refine va_iald hx hb hK hP 2 0 rfl rfl (by have z0 : (20 : Int32).toInt = 20 := (by decide); have z1 := nI_toInt (n := k) (by omega); (try have z2 := gI_mul (x := 20) (y := (nI k)) (by (try rw [z0]); (try rw [z1]); omega) (by (try rw [z0]); (try rw [z1]); omega)); (try rw [z0, z1] at z2); (try rw [z0] at z2); (try rw [z1] at z2); have z3 : (10 : Int32).toInt = 10 := (by decide); (try have z4 := gI_add (x := (20 * (nI k))) (y := 10) (by omega) (by omega)); (try rw [vp_in_iff]); omega) dX7_moves_105 ?_
                                  refine lv_iadd hx hb dX7_moves_106 ?_
                                  refine lv_istore (lv' := [(4, .int ((2 * ((2 * ((2 * ((2 * ((2 * ((2 * ((2 * ((2 * ((2 * ((2 * 0) + ((it_X7_moves_2 w ring p0 p1 640) (Int32.toNatClampNeg ((20 * (nI k)) + 19))))) + ((it_X7_moves_2 w ring p0 p1 640) (Int32.toNatClampNeg ((20 * (nI k)) + 18))))) + ((it_X7_moves_2 w ring p0 p1 640) (Int32.toNatClampNeg ((20 * (nI k)) + 17))))) + ((it_X7_moves_2 w ring p0 p1 640) (Int32.toNatClampNeg ((20 * (nI k)) + 16))))) + ((it_X7_moves_2 w ring p0 p1 640) (Int32.toNatClampNeg ((20 * (nI k)) + 15))))) + ((it_X7_moves_2 w ring p0 p1 640) (Int32.toNatClampNeg ((20 * (nI k)) + 14))))) + ((it_X7_moves_2 w ring p0 p1 640) (Int32.toNatClampNeg ((20 * (nI k)) + 13))))) + ((it_X7_moves_2 w ring p0 p1 640) (Int32.toNatClampNeg ((20 * (nI k)) + 12))))) + ((it_X7_moves_2 w ring p0 p1 640) (Int32.toNatClampNeg ((20 * (nI k)) + 11))))) + ((it_X7_moves_2 w ring p0 p1 640) (Int32.toNatClampNeg ((20 * (nI k)) + 10))))), (5, .int 10), (3, .int (nI k)), (0, .ref m0), (1, .int p0), (2, .int p1)]) hx hb dX7_moves_107 hl (by decide) rfl (fun ls hl => ?_)
                                  refine lv_iinc (v := 9) (lv' := [(5, .int 9), (4, .int ((2 * ((2 * ((2 * ((2 * ((2 * ((2 * ((2 * ((2 * ((2 * ((2 * 0) + ((it_X7_moves_2 w ring p0 p1 640) (Int32.toNatClampNeg ((20 * (nI k)) + 19))))) + ((it_X7_moves_2 w ring p0 p1 640) (Int32.toNatClampNeg ((20 * (nI k)) + 18))))) + ((it_X7_moves_2 w ring p0 p1 640) (Int32.toNatClampNeg ((20 * (nI k)) + 17))))) + ((it_X7_moves_2 w ring p0 p1 640) (Int32.toNatClampNeg ((20 * (nI k)) + 16))))) + ((it_X7_moves_2 w ring p0 p1 640) (Int32.toNatClampNeg ((20 * (nI k)) + 15))))) + ((it_X7_moves_2 w ring p0 p1 640) (Int32.toNatClampNeg ((20 * (nI k)) + 14))))) + ((it_X7_moves_2 w ring p0 p1 640) (Int32.toNatClampNeg ((20 * (nI k)) + 13))))) + ((it_X7_moves_2 w ring p0 p1 640) (Int32.toNatClampNeg ((20 * (nI k)) + 12))))) + ((it_X7_moves_2 w ring p0 p1 640) (Int32.toNatClampNeg ((20 * (nI k)) + 11))))) + ((it_X7_moves_2 w ring p0 p1 640) (Int32.toNatClampNeg ((20 * (nI k)) + 10))))), (3, .int (nI k)), (0, .ref m0), (1, .int p0), (2, .int p1)]) hx hb dX7_moves_109 hl (k := 1) rfl rfl (by decide) rfl (fun ls hl => ?_)
                                  refine lv_goto (tgt := 85) hx hb dX7_moves_112 (by decide) ?_
                                  refine lv_iload hx hb dX7_moves_85 (lv_at hl 0 rfl) ?_
                                  refine lv_if_lt (tgt := 115) hx hb dX7_moves_87 (by decide) (fun c_14 => ?_) (fun c_14 => ?_)
                                  · exact absurd c_14 (by decide)
                                  · skip
                                    refine lv_iconst (v := 2) hx hb dX7_moves_90 (by decide) ?_
                                    refine lv_iload hx hb dX7_moves_91 (lv_at hl 1 rfl) ?_
                                    refine lv_imul hx hb dX7_moves_93 ?_
                                    refine lv_aload_n hx hb dX7_moves_94 rfl (lv_at hl 3 rfl) ?_
                                    refine va_get (D := G.1) (ci := 10) (v := .ref m18) (C := RX7) (T := TX7) (N := 21) hx hb hts in_X7 hown hK hP 0 rfl rfl 18 (by decide) (hts _ k_fl_X7_69) (fun _ h9 => h9) rfl dX7_moves_95 ?_
                                    refine lv_bipush (v := 20) hx hb dX7_moves_98 (by decide) ?_
                                    refine lv_iload_n hx hb dX7_moves_100 rfl (lv_at hl 2 rfl) ?_
                                    refine lv_imul hx hb dX7_moves_101 ?_
                                    refine lv_iload hx hb dX7_moves_102 (lv_at hl 0 rfl) ?_
                                    refine lv_iadd hx hb dX7_moves_104 ?_
                                    refine va_iald hx hb hK hP 2 0 rfl rfl (by have z0 : (20 : Int32).toInt = 20 := (by decide); have z1 := nI_toInt (n := k) (by omega); (try have z2 := gI_mul (x := 20) (y := (nI k)) (by (try rw [z0]); (try rw [z1]); omega) (by (try rw [z0]); (try rw [z1]); omega)); (try rw [z0, z1] at z2); (try rw [z0] at z2); (try rw [z1] at z2); have z3 : (9 : Int32).toInt = 9 := (by decide); (try have z4 := gI_add (x := (20 * (nI k))) (y := 9) (by omega) (by omega)); (try rw [vp_in_iff]); omega) dX7_moves_105 ?_
                                    refine lv_iadd hx hb dX7_moves_106 ?_
                                    refine lv_istore (lv' := [(4, .int ((2 * ((2 * ((2 * ((2 * ((2 * ((2 * ((2 * ((2 * ((2 * ((2 * ((2 * 0) + ((it_X7_moves_2 w ring p0 p1 640) (Int32.toNatClampNeg ((20 * (nI k)) + 19))))) + ((it_X7_moves_2 w ring p0 p1 640) (Int32.toNatClampNeg ((20 * (nI k)) + 18))))) + ((it_X7_moves_2 w ring p0 p1 640) (Int32.toNatClampNeg ((20 * (nI k)) + 17))))) + ((it_X7_moves_2 w ring p0 p1 640) (Int32.toNatClampNeg ((20 * (nI k)) + 16))))) + ((it_X7_moves_2 w ring p0 p1 640) (Int32.toNatClampNeg ((20 * (nI k)) + 15))))) + ((it_X7_moves_2 w ring p0 p1 640) (Int32.toNatClampNeg ((20 * (nI k)) + 14))))) + ((it_X7_moves_2 w ring p0 p1 640) (Int32.toNatClampNeg ((20 * (nI k)) + 13))))) + ((it_X7_moves_2 w ring p0 p1 640) (Int32.toNatClampNeg ((20 * (nI k)) + 12))))) + ((it_X7_moves_2 w ring p0 p1 640) (Int32.toNatClampNeg ((20 * (nI k)) + 11))))) + ((it_X7_moves_2 w ring p0 p1 640) (Int32.toNatClampNeg ((20 * (nI k)) + 10))))) + ((it_X7_moves_2 w ring p0 p1 640) (Int32.toNatClampNeg ((20 * (nI k)) + 9))))), (5, .int 9), (3, .int (nI k)), (0, .ref m0), (1, .int p0), (2, .int p1)]) hx hb dX7_moves_107 hl (by decide) rfl (fun ls hl => ?_)
                                    refine lv_iinc (v := 8) (lv' := [(5, .int 8), (4, .int ((2 * ((2 * ((2 * ((2 * ((2 * ((2 * ((2 * ((2 * ((2 * ((2 * ((2 * 0) + ((it_X7_moves_2 w ring p0 p1 640) (Int32.toNatClampNeg ((20 * (nI k)) + 19))))) + ((it_X7_moves_2 w ring p0 p1 640) (Int32.toNatClampNeg ((20 * (nI k)) + 18))))) + ((it_X7_moves_2 w ring p0 p1 640) (Int32.toNatClampNeg ((20 * (nI k)) + 17))))) + ((it_X7_moves_2 w ring p0 p1 640) (Int32.toNatClampNeg ((20 * (nI k)) + 16))))) + ((it_X7_moves_2 w ring p0 p1 640) (Int32.toNatClampNeg ((20 * (nI k)) + 15))))) + ((it_X7_moves_2 w ring p0 p1 640) (Int32.toNatClampNeg ((20 * (nI k)) + 14))))) + ((it_X7_moves_2 w ring p0 p1 640) (Int32.toNatClampNeg ((20 * (nI k)) + 13))))) + ((it_X7_moves_2 w ring p0 p1 640) (Int32.toNatClampNeg ((20 * (nI k)) + 12))))) + ((it_X7_moves_2 w ring p0 p1 640) (Int32.toNatClampNeg ((20 * (nI k)) + 11))))) + ((it_X7_moves_2 w ring p0 p1 640) (Int32.toNatClampNeg ((20 * (nI k)) + 10))))) + ((it_X7_moves_2 w ring p0 p1 640) (Int32.toNatClampNeg ((20 * (nI k)) + 9))))), (3, .int (nI k)), (0, .ref m0), (1, .int p0), (2, .int p1)]) hx hb dX7_moves_109 hl (k := 1) rfl rfl (by decide) rfl (fun ls hl => ?_)
                                    refine lv_goto (tgt := 85) hx hb dX7_moves_112 (by decide) ?_
                                    refine lv_iload hx hb dX7_moves_85 (lv_at hl 0 rfl) ?_
                                    refine lv_if_lt (tgt := 115) hx hb dX7_moves_87 (by decide) (fun c_15 => ?_) (fun c_15 => ?_)
                                    · exact absurd c_15 (by decide)
                                    · skip
                                      refine lv_iconst (v := 2) hx hb dX7_moves_90 (by decide) ?_
                                      refine lv_iload hx hb dX7_moves_91 (lv_at hl 1 rfl) ?_
                                      refine lv_imul hx hb dX7_moves_93 ?_
                                      refine lv_aload_n hx hb dX7_moves_94 rfl (lv_at hl 3 rfl) ?_
                                      refine va_get (D := G.1) (ci := 10) (v := .ref m18) (C := RX7) (T := TX7) (N := 21) hx hb hts in_X7 hown hK hP 0 rfl rfl 18 (by decide) (hts _ k_fl_X7_69) (fun _ h9 => h9) rfl dX7_moves_95 ?_
                                      refine lv_bipush (v := 20) hx hb dX7_moves_98 (by decide) ?_
                                      refine lv_iload_n hx hb dX7_moves_100 rfl (lv_at hl 2 rfl) ?_
                                      refine lv_imul hx hb dX7_moves_101 ?_
                                      refine lv_iload hx hb dX7_moves_102 (lv_at hl 0 rfl) ?_
                                      refine lv_iadd hx hb dX7_moves_104 ?_
                                      refine va_iald hx hb hK hP 2 0 rfl rfl (by have z0 : (20 : Int32).toInt = 20 := (by decide); have z1 := nI_toInt (n := k) (by omega); (try have z2 := gI_mul (x := 20) (y := (nI k)) (by (try rw [z0]); (try rw [z1]); omega) (by (try rw [z0]); (try rw [z1]); omega)); (try rw [z0, z1] at z2); (try rw [z0] at z2); (try rw [z1] at z2); have z3 : (8 : Int32).toInt = 8 := (by decide); (try have z4 := gI_add (x := (20 * (nI k))) (y := 8) (by omega) (by omega)); (try rw [vp_in_iff]); omega) dX7_moves_105 ?_
                                      refine lv_iadd hx hb dX7_moves_106 ?_
                                      refine lv_istore (lv' := [(4, .int ((2 * ((2 * ((2 * ((2 * ((2 * ((2 * ((2 * ((2 * ((2 * ((2 * ((2 * ((2 * 0) + ((it_X7_moves_2 w ring p0 p1 640) (Int32.toNatClampNeg ((20 * (nI k)) + 19))))) + ((it_X7_moves_2 w ring p0 p1 640) (Int32.toNatClampNeg ((20 * (nI k)) + 18))))) + ((it_X7_moves_2 w ring p0 p1 640) (Int32.toNatClampNeg ((20 * (nI k)) + 17))))) + ((it_X7_moves_2 w ring p0 p1 640) (Int32.toNatClampNeg ((20 * (nI k)) + 16))))) + ((it_X7_moves_2 w ring p0 p1 640) (Int32.toNatClampNeg ((20 * (nI k)) + 15))))) + ((it_X7_moves_2 w ring p0 p1 640) (Int32.toNatClampNeg ((20 * (nI k)) + 14))))) + ((it_X7_moves_2 w ring p0 p1 640) (Int32.toNatClampNeg ((20 * (nI k)) + 13))))) + ((it_X7_moves_2 w ring p0 p1 640) (Int32.toNatClampNeg ((20 * (nI k)) + 12))))) + ((it_X7_moves_2 w ring p0 p1 640) (Int32.toNatClampNeg ((20 * (nI k)) + 11))))) + ((it_X7_moves_2 w ring p0 p1 640) (Int32.toNatClampNeg ((20 * (nI k)) + 10))))) + ((it_X7_moves_2 w ring p0 p1 640) (Int32.toNatClampNeg ((20 * (nI k)) + 9))))) + ((it_X7_moves_2 w ring p0 p1 640) (Int32.toNatClampNeg ((20 * (nI k)) + 8))))), (5, .int 8), (3, .int (nI k)), (0, .ref m0), (1, .int p0), (2, .int p1)]) hx hb dX7_moves_107 hl (by decide) rfl (fun ls hl => ?_)
                                      refine lv_iinc (v := 7) (lv' := [(5, .int 7), (4, .int ((2 * ((2 * ((2 * ((2 * ((2 * ((2 * ((2 * ((2 * ((2 * ((2 * ((2 * ((2 * 0) + ((it_X7_moves_2 w ring p0 p1 640) (Int32.toNatClampNeg ((20 * (nI k)) + 19))))) + ((it_X7_moves_2 w ring p0 p1 640) (Int32.toNatClampNeg ((20 * (nI k)) + 18))))) + ((it_X7_moves_2 w ring p0 p1 640) (Int32.toNatClampNeg ((20 * (nI k)) + 17))))) + ((it_X7_moves_2 w ring p0 p1 640) (Int32.toNatClampNeg ((20 * (nI k)) + 16))))) + ((it_X7_moves_2 w ring p0 p1 640) (Int32.toNatClampNeg ((20 * (nI k)) + 15))))) + ((it_X7_moves_2 w ring p0 p1 640) (Int32.toNatClampNeg ((20 * (nI k)) + 14))))) + ((it_X7_moves_2 w ring p0 p1 640) (Int32.toNatClampNeg ((20 * (nI k)) + 13))))) + ((it_X7_moves_2 w ring p0 p1 640) (Int32.toNatClampNeg ((20 * (nI k)) + 12))))) + ((it_X7_moves_2 w ring p0 p1 640) (Int32.toNatClampNeg ((20 * (nI k)) + 11))))) + ((it_X7_moves_2 w ring p0 p1 640) (Int32.toNatClampNeg ((20 * (nI k)) + 10))))) + ((it_X7_moves_2 w ring p0 p1 640) (Int32.toNatClampNeg ((20 * (nI k)) + 9))))) + ((it_X7_moves_2 w ring p0 p1 640) (Int32.toNatClampNeg ((20 * (nI k)) + 8))))), (3, .int (nI k)), (0, .ref m0), (1, .int p0), (2, .int p1)]) hx hb dX7_moves_109 hl (k := 1) rfl rfl (by decide) rfl (fun ls hl => ?_)
                                      refine lv_goto (tgt := 85) hx hb dX7_moves_112 (by decide) ?_
                                      refine lv_iload hx hb dX7_moves_85 (lv_at hl 0 rfl) ?_
                                      refine lv_if_lt (tgt := 115) hx hb dX7_moves_87 (by decide) (fun c_16 => ?_) (fun c_16 => ?_)
                                      · exact absurd c_16 (by decide)
                                      · skip
                                        refine lv_iconst (v := 2) hx hb dX7_moves_90 (by decide) ?_
                                        refine lv_iload hx hb dX7_moves_91 (lv_at hl 1 rfl) ?_
                                        refine lv_imul hx hb dX7_moves_93 ?_
                                        refine lv_aload_n hx hb dX7_moves_94 rfl (lv_at hl 3 rfl) ?_
                                        refine va_get (D := G.1) (ci := 10) (v := .ref m18) (C := RX7) (T := TX7) (N := 21) hx hb hts in_X7 hown hK hP 0 rfl rfl 18 (by decide) (hts _ k_fl_X7_69) (fun _ h9 => h9) rfl dX7_moves_95 ?_
                                        refine lv_bipush (v := 20) hx hb dX7_moves_98 (by decide) ?_
                                        refine lv_iload_n hx hb dX7_moves_100 rfl (lv_at hl 2 rfl) ?_
                                        refine lv_imul hx hb dX7_moves_101 ?_
                                        refine lv_iload hx hb dX7_moves_102 (lv_at hl 0 rfl) ?_
                                        refine lv_iadd hx hb dX7_moves_104 ?_
                                        refine va_iald hx hb hK hP 2 0 rfl rfl (by have z0 : (20 : Int32).toInt = 20 := (by decide); have z1 := nI_toInt (n := k) (by omega); (try have z2 := gI_mul (x := 20) (y := (nI k)) (by (try rw [z0]); (try rw [z1]); omega) (by (try rw [z0]); (try rw [z1]); omega)); (try rw [z0, z1] at z2); (try rw [z0] at z2); (try rw [z1] at z2); have z3 : (7 : Int32).toInt = 7 := (by decide); (try have z4 := gI_add (x := (20 * (nI k))) (y := 7) (by omega) (by omega)); (try rw [vp_in_iff]); omega) dX7_moves_105 ?_
                                        refine lv_iadd hx hb dX7_moves_106 ?_
                                        refine lv_istore (lv' := [(4, .int ((2 * ((2 * ((2 * ((2 * ((2 * ((2 * ((2 * ((2 * ((2 * ((2 * ((2 * ((2 * ((2 * 0) + ((it_X7_moves_2 w ring p0 p1 640) (Int32.toNatClampNeg ((20 * (nI k)) + 19))))) + ((it_X7_moves_2 w ring p0 p1 640) (Int32.toNatClampNeg ((20 * (nI k)) + 18))))) + ((it_X7_moves_2 w ring p0 p1 640) (Int32.toNatClampNeg ((20 * (nI k)) + 17))))) + ((it_X7_moves_2 w ring p0 p1 640) (Int32.toNatClampNeg ((20 * (nI k)) + 16))))) + ((it_X7_moves_2 w ring p0 p1 640) (Int32.toNatClampNeg ((20 * (nI k)) + 15))))) + ((it_X7_moves_2 w ring p0 p1 640) (Int32.toNatClampNeg ((20 * (nI k)) + 14))))) + ((it_X7_moves_2 w ring p0 p1 640) (Int32.toNatClampNeg ((20 * (nI k)) + 13))))) + ((it_X7_moves_2 w ring p0 p1 640) (Int32.toNatClampNeg ((20 * (nI k)) + 12))))) + ((it_X7_moves_2 w ring p0 p1 640) (Int32.toNatClampNeg ((20 * (nI k)) + 11))))) + ((it_X7_moves_2 w ring p0 p1 640) (Int32.toNatClampNeg ((20 * (nI k)) + 10))))) + ((it_X7_moves_2 w ring p0 p1 640) (Int32.toNatClampNeg ((20 * (nI k)) + 9))))) + ((it_X7_moves_2 w ring p0 p1 640) (Int32.toNatClampNeg ((20 * (nI k)) + 8))))) + ((it_X7_moves_2 w ring p0 p1 640) (Int32.toNatClampNeg ((20 * (nI k)) + 7))))), (5, .int 7), (3, .int (nI k)), (0, .ref m0), (1, .int p0), (2, .int p1)]) hx hb dX7_moves_107 hl (by decide) rfl (fun ls hl => ?_)
                                        refine lv_iinc (v := 6) (lv' := [(5, .int 6), (4, .int ((2 * ((2 * ((2 * ((2 * ((2 * ((2 * ((2 * ((2 * ((2 * ((2 * ((2 * ((2 * ((2 * 0) + ((it_X7_moves_2 w ring p0 p1 640) (Int32.toNatClampNeg ((20 * (nI k)) + 19))))) + ((it_X7_moves_2 w ring p0 p1 640) (Int32.toNatClampNeg ((20 * (nI k)) + 18))))) + ((it_X7_moves_2 w ring p0 p1 640) (Int32.toNatClampNeg ((20 * (nI k)) + 17))))) + ((it_X7_moves_2 w ring p0 p1 640) (Int32.toNatClampNeg ((20 * (nI k)) + 16))))) + ((it_X7_moves_2 w ring p0 p1 640) (Int32.toNatClampNeg ((20 * (nI k)) + 15))))) + ((it_X7_moves_2 w ring p0 p1 640) (Int32.toNatClampNeg ((20 * (nI k)) + 14))))) + ((it_X7_moves_2 w ring p0 p1 640) (Int32.toNatClampNeg ((20 * (nI k)) + 13))))) + ((it_X7_moves_2 w ring p0 p1 640) (Int32.toNatClampNeg ((20 * (nI k)) + 12))))) + ((it_X7_moves_2 w ring p0 p1 640) (Int32.toNatClampNeg ((20 * (nI k)) + 11))))) + ((it_X7_moves_2 w ring p0 p1 640) (Int32.toNatClampNeg ((20 * (nI k)) + 10))))) + ((it_X7_moves_2 w ring p0 p1 640) (Int32.toNatClampNeg ((20 * (nI k)) + 9))))) + ((it_X7_moves_2 w ring p0 p1 640) (Int32.toNatClampNeg ((20 * (nI k)) + 8))))) + ((it_X7_moves_2 w ring p0 p1 640) (Int32.toNatClampNeg ((20 * (nI k)) + 7))))), (3, .int (nI k)), (0, .ref m0), (1, .int p0), (2, .int p1)]) hx hb dX7_moves_109 hl (k := 1) rfl rfl (by decide) rfl (fun ls hl => ?_)
                                        refine lv_goto (tgt := 85) hx hb dX7_moves_112 (by decide) ?_
                                        refine lv_iload hx hb dX7_moves_85 (lv_at hl 0 rfl) ?_
                                        refine lv_if_lt (tgt := 115) hx hb dX7_moves_87 (by decide) (fun c_17 => ?_) (fun c_17 => ?_)
                                        · exact absurd c_17 (by decide)
                                        · skip
                                          refine lv_iconst (v := 2) hx hb dX7_moves_90 (by decide) ?_
                                          refine lv_iload hx hb dX7_moves_91 (lv_at hl 1 rfl) ?_
                                          refine lv_imul hx hb dX7_moves_93 ?_
                                          refine lv_aload_n hx hb dX7_moves_94 rfl (lv_at hl 3 rfl) ?_
                                          refine va_get (D := G.1) (ci := 10) (v := .ref m18) (C := RX7) (T := TX7) (N := 21) hx hb hts in_X7 hown hK hP 0 rfl rfl 18 (by decide) (hts _ k_fl_X7_69) (fun _ h9 => h9) rfl dX7_moves_95 ?_
                                          refine lv_bipush (v := 20) hx hb dX7_moves_98 (by decide) ?_
                                          refine lv_iload_n hx hb dX7_moves_100 rfl (lv_at hl 2 rfl) ?_
                                          refine lv_imul hx hb dX7_moves_101 ?_
                                          refine lv_iload hx hb dX7_moves_102 (lv_at hl 0 rfl) ?_
                                          refine lv_iadd hx hb dX7_moves_104 ?_
                                          refine va_iald hx hb hK hP 2 0 rfl rfl (by have z0 : (20 : Int32).toInt = 20 := (by decide); have z1 := nI_toInt (n := k) (by omega); (try have z2 := gI_mul (x := 20) (y := (nI k)) (by (try rw [z0]); (try rw [z1]); omega) (by (try rw [z0]); (try rw [z1]); omega)); (try rw [z0, z1] at z2); (try rw [z0] at z2); (try rw [z1] at z2); have z3 : (6 : Int32).toInt = 6 := (by decide); (try have z4 := gI_add (x := (20 * (nI k))) (y := 6) (by omega) (by omega)); (try rw [vp_in_iff]); omega) dX7_moves_105 ?_
                                          refine lv_iadd hx hb dX7_moves_106 ?_
                                          refine lv_istore (lv' := [(4, .int ((2 * ((2 * ((2 * ((2 * ((2 * ((2 * ((2 * ((2 * ((2 * ((2 * ((2 * ((2 * ((2 * ((2 * 0) + ((it_X7_moves_2 w ring p0 p1 640) (Int32.toNatClampNeg ((20 * (nI k)) + 19))))) + ((it_X7_moves_2 w ring p0 p1 640) (Int32.toNatClampNeg ((20 * (nI k)) + 18))))) + ((it_X7_moves_2 w ring p0 p1 640) (Int32.toNatClampNeg ((20 * (nI k)) + 17))))) + ((it_X7_moves_2 w ring p0 p1 640) (Int32.toNatClampNeg ((20 * (nI k)) + 16))))) + ((it_X7_moves_2 w ring p0 p1 640) (Int32.toNatClampNeg ((20 * (nI k)) + 15))))) + ((it_X7_moves_2 w ring p0 p1 640) (Int32.toNatClampNeg ((20 * (nI k)) + 14))))) + ((it_X7_moves_2 w ring p0 p1 640) (Int32.toNatClampNeg ((20 * (nI k)) + 13))))) + ((it_X7_moves_2 w ring p0 p1 640) (Int32.toNatClampNeg ((20 * (nI k)) + 12))))) + ((it_X7_moves_2 w ring p0 p1 640) (Int32.toNatClampNeg ((20 * (nI k)) + 11))))) + ((it_X7_moves_2 w ring p0 p1 640) (Int32.toNatClampNeg ((20 * (nI k)) + 10))))) + ((it_X7_moves_2 w ring p0 p1 640) (Int32.toNatClampNeg ((20 * (nI k)) + 9))))) + ((it_X7_moves_2 w ring p0 p1 640) (Int32.toNatClampNeg ((20 * (nI k)) + 8))))) + ((it_X7_moves_2 w ring p0 p1 640) (Int32.toNatClampNeg ((20 * (nI k)) + 7))))) + ((it_X7_moves_2 w ring p0 p1 640) (Int32.toNatClampNeg ((20 * (nI k)) + 6))))), (5, .int 6), (3, .int (nI k)), (0, .ref m0), (1, .int p0), (2, .int p1)]) hx hb dX7_moves_107 hl (by decide) rfl (fun ls hl => ?_)
                                          refine lv_iinc (v := 5) (lv' := [(5, .int 5), (4, .int ((2 * ((2 * ((2 * ((2 * ((2 * ((2 * ((2 * ((2 * ((2 * ((2 * ((2 * ((2 * ((2 * ((2 * 0) + ((it_X7_moves_2 w ring p0 p1 640) (Int32.toNatClampNeg ((20 * (nI k)) + 19))))) + ((it_X7_moves_2 w ring p0 p1 640) (Int32.toNatClampNeg ((20 * (nI k)) + 18))))) + ((it_X7_moves_2 w ring p0 p1 640) (Int32.toNatClampNeg ((20 * (nI k)) + 17))))) + ((it_X7_moves_2 w ring p0 p1 640) (Int32.toNatClampNeg ((20 * (nI k)) + 16))))) + ((it_X7_moves_2 w ring p0 p1 640) (Int32.toNatClampNeg ((20 * (nI k)) + 15))))) + ((it_X7_moves_2 w ring p0 p1 640) (Int32.toNatClampNeg ((20 * (nI k)) + 14))))) + ((it_X7_moves_2 w ring p0 p1 640) (Int32.toNatClampNeg ((20 * (nI k)) + 13))))) + ((it_X7_moves_2 w ring p0 p1 640) (Int32.toNatClampNeg ((20 * (nI k)) + 12))))) + ((it_X7_moves_2 w ring p0 p1 640) (Int32.toNatClampNeg ((20 * (nI k)) + 11))))) + ((it_X7_moves_2 w ring p0 p1 640) (Int32.toNatClampNeg ((20 * (nI k)) + 10))))) + ((it_X7_moves_2 w ring p0 p1 640) (Int32.toNatClampNeg ((20 * (nI k)) + 9))))) + ((it_X7_moves_2 w ring p0 p1 640) (Int32.toNatClampNeg ((20 * (nI k)) + 8))))) + ((it_X7_moves_2 w ring p0 p1 640) (Int32.toNatClampNeg ((20 * (nI k)) + 7))))) + ((it_X7_moves_2 w ring p0 p1 640) (Int32.toNatClampNeg ((20 * (nI k)) + 6))))), (3, .int (nI k)), (0, .ref m0), (1, .int p0), (2, .int p1)]) hx hb dX7_moves_109 hl (k := 1) rfl rfl (by decide) rfl (fun ls hl => ?_)
                                          refine lv_goto (tgt := 85) hx hb dX7_moves_112 (by decide) ?_
                                          refine lv_iload hx hb dX7_moves_85 (lv_at hl 0 rfl) ?_
                                          refine lv_if_lt (tgt := 115) hx hb dX7_moves_87 (by decide) (fun c_18 => ?_) (fun c_18 => ?_)
                                          · exact absurd c_18 (by decide)
                                          · skip
                                            refine lv_iconst (v := 2) hx hb dX7_moves_90 (by decide) ?_
                                            refine lv_iload hx hb dX7_moves_91 (lv_at hl 1 rfl) ?_
                                            refine lv_imul hx hb dX7_moves_93 ?_
                                            refine lv_aload_n hx hb dX7_moves_94 rfl (lv_at hl 3 rfl) ?_
                                            refine va_get (D := G.1) (ci := 10) (v := .ref m18) (C := RX7) (T := TX7) (N := 21) hx hb hts in_X7 hown hK hP 0 rfl rfl 18 (by decide) (hts _ k_fl_X7_69) (fun _ h9 => h9) rfl dX7_moves_95 ?_
                                            refine lv_bipush (v := 20) hx hb dX7_moves_98 (by decide) ?_
                                            refine lv_iload_n hx hb dX7_moves_100 rfl (lv_at hl 2 rfl) ?_
                                            refine lv_imul hx hb dX7_moves_101 ?_
                                            refine lv_iload hx hb dX7_moves_102 (lv_at hl 0 rfl) ?_
                                            refine lv_iadd hx hb dX7_moves_104 ?_
                                            refine va_iald hx hb hK hP 2 0 rfl rfl (by have z0 : (20 : Int32).toInt = 20 := (by decide); have z1 := nI_toInt (n := k) (by omega); (try have z2 := gI_mul (x := 20) (y := (nI k)) (by (try rw [z0]); (try rw [z1]); omega) (by (try rw [z0]); (try rw [z1]); omega)); (try rw [z0, z1] at z2); (try rw [z0] at z2); (try rw [z1] at z2); have z3 : (5 : Int32).toInt = 5 := (by decide); (try have z4 := gI_add (x := (20 * (nI k))) (y := 5) (by omega) (by omega)); (try rw [vp_in_iff]); omega) dX7_moves_105 ?_
                                            refine lv_iadd hx hb dX7_moves_106 ?_
                                            refine lv_istore (lv' := [(4, .int ((2 * ((2 * ((2 * ((2 * ((2 * ((2 * ((2 * ((2 * ((2 * ((2 * ((2 * ((2 * ((2 * ((2 * ((2 * 0) + ((it_X7_moves_2 w ring p0 p1 640) (Int32.toNatClampNeg ((20 * (nI k)) + 19))))) + ((it_X7_moves_2 w ring p0 p1 640) (Int32.toNatClampNeg ((20 * (nI k)) + 18))))) + ((it_X7_moves_2 w ring p0 p1 640) (Int32.toNatClampNeg ((20 * (nI k)) + 17))))) + ((it_X7_moves_2 w ring p0 p1 640) (Int32.toNatClampNeg ((20 * (nI k)) + 16))))) + ((it_X7_moves_2 w ring p0 p1 640) (Int32.toNatClampNeg ((20 * (nI k)) + 15))))) + ((it_X7_moves_2 w ring p0 p1 640) (Int32.toNatClampNeg ((20 * (nI k)) + 14))))) + ((it_X7_moves_2 w ring p0 p1 640) (Int32.toNatClampNeg ((20 * (nI k)) + 13))))) + ((it_X7_moves_2 w ring p0 p1 640) (Int32.toNatClampNeg ((20 * (nI k)) + 12))))) + ((it_X7_moves_2 w ring p0 p1 640) (Int32.toNatClampNeg ((20 * (nI k)) + 11))))) + ((it_X7_moves_2 w ring p0 p1 640) (Int32.toNatClampNeg ((20 * (nI k)) + 10))))) + ((it_X7_moves_2 w ring p0 p1 640) (Int32.toNatClampNeg ((20 * (nI k)) + 9))))) + ((it_X7_moves_2 w ring p0 p1 640) (Int32.toNatClampNeg ((20 * (nI k)) + 8))))) + ((it_X7_moves_2 w ring p0 p1 640) (Int32.toNatClampNeg ((20 * (nI k)) + 7))))) + ((it_X7_moves_2 w ring p0 p1 640) (Int32.toNatClampNeg ((20 * (nI k)) + 6))))) + ((it_X7_moves_2 w ring p0 p1 640) (Int32.toNatClampNeg ((20 * (nI k)) + 5))))), (5, .int 5), (3, .int (nI k)), (0, .ref m0), (1, .int p0), (2, .int p1)]) hx hb dX7_moves_107 hl (by decide) rfl (fun ls hl => ?_)
                                            refine lv_iinc (v := 4) (lv' := [(5, .int 4), (4, .int ((2 * ((2 * ((2 * ((2 * ((2 * ((2 * ((2 * ((2 * ((2 * ((2 * ((2 * ((2 * ((2 * ((2 * ((2 * 0) + ((it_X7_moves_2 w ring p0 p1 640) (Int32.toNatClampNeg ((20 * (nI k)) + 19))))) + ((it_X7_moves_2 w ring p0 p1 640) (Int32.toNatClampNeg ((20 * (nI k)) + 18))))) + ((it_X7_moves_2 w ring p0 p1 640) (Int32.toNatClampNeg ((20 * (nI k)) + 17))))) + ((it_X7_moves_2 w ring p0 p1 640) (Int32.toNatClampNeg ((20 * (nI k)) + 16))))) + ((it_X7_moves_2 w ring p0 p1 640) (Int32.toNatClampNeg ((20 * (nI k)) + 15))))) + ((it_X7_moves_2 w ring p0 p1 640) (Int32.toNatClampNeg ((20 * (nI k)) + 14))))) + ((it_X7_moves_2 w ring p0 p1 640) (Int32.toNatClampNeg ((20 * (nI k)) + 13))))) + ((it_X7_moves_2 w ring p0 p1 640) (Int32.toNatClampNeg ((20 * (nI k)) + 12))))) + ((it_X7_moves_2 w ring p0 p1 640) (Int32.toNatClampNeg ((20 * (nI k)) + 11))))) + ((it_X7_moves_2 w ring p0 p1 640) (Int32.toNatClampNeg ((20 * (nI k)) + 10))))) + ((it_X7_moves_2 w ring p0 p1 640) (Int32.toNatClampNeg ((20 * (nI k)) + 9))))) + ((it_X7_moves_2 w ring p0 p1 640) (Int32.toNatClampNeg ((20 * (nI k)) + 8))))) + ((it_X7_moves_2 w ring p0 p1 640) (Int32.toNatClampNeg ((20 * (nI k)) + 7))))) + ((it_X7_moves_2 w ring p0 p1 640) (Int32.toNatClampNeg ((20 * (nI k)) + 6))))) + ((it_X7_moves_2 w ring p0 p1 640) (Int32.toNatClampNeg ((20 * (nI k)) + 5))))), (3, .int (nI k)), (0, .ref m0), (1, .int p0), (2, .int p1)]) hx hb dX7_moves_109 hl (k := 1) rfl rfl (by decide) rfl (fun ls hl => ?_)
                                            refine lv_goto (tgt := 85) hx hb dX7_moves_112 (by decide) ?_
                                            refine lv_iload hx hb dX7_moves_85 (lv_at hl 0 rfl) ?_
                                            refine lv_if_lt (tgt := 115) hx hb dX7_moves_87 (by decide) (fun c_19 => ?_) (fun c_19 => ?_)
                                            · exact absurd c_19 (by decide)
                                            · skip
                                              refine lv_iconst (v := 2) hx hb dX7_moves_90 (by decide) ?_
                                              refine lv_iload hx hb dX7_moves_91 (lv_at hl 1 rfl) ?_
                                              refine lv_imul hx hb dX7_moves_93 ?_
                                              refine lv_aload_n hx hb dX7_moves_94 rfl (lv_at hl 3 rfl) ?_
                                              refine va_get (D := G.1) (ci := 10) (v := .ref m18) (C := RX7) (T := TX7) (N := 21) hx hb hts in_X7 hown hK hP 0 rfl rfl 18 (by decide) (hts _ k_fl_X7_69) (fun _ h9 => h9) rfl dX7_moves_95 ?_
                                              refine lv_bipush (v := 20) hx hb dX7_moves_98 (by decide) ?_
                                              refine lv_iload_n hx hb dX7_moves_100 rfl (lv_at hl 2 rfl) ?_
                                              refine lv_imul hx hb dX7_moves_101 ?_
                                              refine lv_iload hx hb dX7_moves_102 (lv_at hl 0 rfl) ?_
                                              refine lv_iadd hx hb dX7_moves_104 ?_
                                              refine va_iald hx hb hK hP 2 0 rfl rfl (by have z0 : (20 : Int32).toInt = 20 := (by decide); have z1 := nI_toInt (n := k) (by omega); (try have z2 := gI_mul (x := 20) (y := (nI k)) (by (try rw [z0]); (try rw [z1]); omega) (by (try rw [z0]); (try rw [z1]); omega)); (try rw [z0, z1] at z2); (try rw [z0] at z2); (try rw [z1] at z2); have z3 : (4 : Int32).toInt = 4 := (by decide); (try have z4 := gI_add (x := (20 * (nI k))) (y := 4) (by omega) (by omega)); (try rw [vp_in_iff]); omega) dX7_moves_105 ?_
                                              refine lv_iadd hx hb dX7_moves_106 ?_
                                              refine lv_istore (lv' := [(4, .int ((2 * ((2 * ((2 * ((2 * ((2 * ((2 * ((2 * ((2 * ((2 * ((2 * ((2 * ((2 * ((2 * ((2 * ((2 * ((2 * 0) + ((it_X7_moves_2 w ring p0 p1 640) (Int32.toNatClampNeg ((20 * (nI k)) + 19))))) + ((it_X7_moves_2 w ring p0 p1 640) (Int32.toNatClampNeg ((20 * (nI k)) + 18))))) + ((it_X7_moves_2 w ring p0 p1 640) (Int32.toNatClampNeg ((20 * (nI k)) + 17))))) + ((it_X7_moves_2 w ring p0 p1 640) (Int32.toNatClampNeg ((20 * (nI k)) + 16))))) + ((it_X7_moves_2 w ring p0 p1 640) (Int32.toNatClampNeg ((20 * (nI k)) + 15))))) + ((it_X7_moves_2 w ring p0 p1 640) (Int32.toNatClampNeg ((20 * (nI k)) + 14))))) + ((it_X7_moves_2 w ring p0 p1 640) (Int32.toNatClampNeg ((20 * (nI k)) + 13))))) + ((it_X7_moves_2 w ring p0 p1 640) (Int32.toNatClampNeg ((20 * (nI k)) + 12))))) + ((it_X7_moves_2 w ring p0 p1 640) (Int32.toNatClampNeg ((20 * (nI k)) + 11))))) + ((it_X7_moves_2 w ring p0 p1 640) (Int32.toNatClampNeg ((20 * (nI k)) + 10))))) + ((it_X7_moves_2 w ring p0 p1 640) (Int32.toNatClampNeg ((20 * (nI k)) + 9))))) + ((it_X7_moves_2 w ring p0 p1 640) (Int32.toNatClampNeg ((20 * (nI k)) + 8))))) + ((it_X7_moves_2 w ring p0 p1 640) (Int32.toNatClampNeg ((20 * (nI k)) + 7))))) + ((it_X7_moves_2 w ring p0 p1 640) (Int32.toNatClampNeg ((20 * (nI k)) + 6))))) + ((it_X7_moves_2 w ring p0 p1 640) (Int32.toNatClampNeg ((20 * (nI k)) + 5))))) + ((it_X7_moves_2 w ring p0 p1 640) (Int32.toNatClampNeg ((20 * (nI k)) + 4))))), (5, .int 4), (3, .int (nI k)), (0, .ref m0), (1, .int p0), (2, .int p1)]) hx hb dX7_moves_107 hl (by decide) rfl (fun ls hl => ?_)
                                              refine lv_iinc (v := 3) (lv' := [(5, .int 3), (4, .int ((2 * ((2 * ((2 * ((2 * ((2 * ((2 * ((2 * ((2 * ((2 * ((2 * ((2 * ((2 * ((2 * ((2 * ((2 * ((2 * 0) + ((it_X7_moves_2 w ring p0 p1 640) (Int32.toNatClampNeg ((20 * (nI k)) + 19))))) + ((it_X7_moves_2 w ring p0 p1 640) (Int32.toNatClampNeg ((20 * (nI k)) + 18))))) + ((it_X7_moves_2 w ring p0 p1 640) (Int32.toNatClampNeg ((20 * (nI k)) + 17))))) + ((it_X7_moves_2 w ring p0 p1 640) (Int32.toNatClampNeg ((20 * (nI k)) + 16))))) + ((it_X7_moves_2 w ring p0 p1 640) (Int32.toNatClampNeg ((20 * (nI k)) + 15))))) + ((it_X7_moves_2 w ring p0 p1 640) (Int32.toNatClampNeg ((20 * (nI k)) + 14))))) + ((it_X7_moves_2 w ring p0 p1 640) (Int32.toNatClampNeg ((20 * (nI k)) + 13))))) + ((it_X7_moves_2 w ring p0 p1 640) (Int32.toNatClampNeg ((20 * (nI k)) + 12))))) + ((it_X7_moves_2 w ring p0 p1 640) (Int32.toNatClampNeg ((20 * (nI k)) + 11))))) + ((it_X7_moves_2 w ring p0 p1 640) (Int32.toNatClampNeg ((20 * (nI k)) + 10))))) + ((it_X7_moves_2 w ring p0 p1 640) (Int32.toNatClampNeg ((20 * (nI k)) + 9))))) + ((it_X7_moves_2 w ring p0 p1 640) (Int32.toNatClampNeg ((20 * (nI k)) + 8))))) + ((it_X7_moves_2 w ring p0 p1 640) (Int32.toNatClampNeg ((20 * (nI k)) + 7))))) + ((it_X7_moves_2 w ring p0 p1 640) (Int32.toNatClampNeg ((20 * (nI k)) + 6))))) + ((it_X7_moves_2 w ring p0 p1 640) (Int32.toNatClampNeg ((20 * (nI k)) + 5))))) + ((it_X7_moves_2 w ring p0 p1 640) (Int32.toNatClampNeg ((20 * (nI k)) + 4))))), (3, .int (nI k)), (0, .ref m0), (1, .int p0), (2, .int p1)]) hx hb dX7_moves_109 hl (k := 1) rfl rfl (by decide) rfl (fun ls hl => ?_)
                                              refine lv_goto (tgt := 85) hx hb dX7_moves_112 (by decide) ?_
                                              refine lv_iload hx hb dX7_moves_85 (lv_at hl 0 rfl) ?_
                                              refine lv_if_lt (tgt := 115) hx hb dX7_moves_87 (by decide) (fun c_20 => ?_) (fun c_20 => ?_)
                                              · exact absurd c_20 (by decide)
                                              · skip
                                                refine lv_iconst (v := 2) hx hb dX7_moves_90 (by decide) ?_
                                                refine lv_iload hx hb dX7_moves_91 (lv_at hl 1 rfl) ?_
                                                refine lv_imul hx hb dX7_moves_93 ?_
                                                refine lv_aload_n hx hb dX7_moves_94 rfl (lv_at hl 3 rfl) ?_
                                                refine va_get (D := G.1) (ci := 10) (v := .ref m18) (C := RX7) (T := TX7) (N := 21) hx hb hts in_X7 hown hK hP 0 rfl rfl 18 (by decide) (hts _ k_fl_X7_69) (fun _ h9 => h9) rfl dX7_moves_95 ?_
                                                refine lv_bipush (v := 20) hx hb dX7_moves_98 (by decide) ?_
                                                refine lv_iload_n hx hb dX7_moves_100 rfl (lv_at hl 2 rfl) ?_
                                                refine lv_imul hx hb dX7_moves_101 ?_
                                                refine lv_iload hx hb dX7_moves_102 (lv_at hl 0 rfl) ?_
                                                refine lv_iadd hx hb dX7_moves_104 ?_
                                                refine va_iald hx hb hK hP 2 0 rfl rfl (by have z0 : (20 : Int32).toInt = 20 := (by decide); have z1 := nI_toInt (n := k) (by omega); (try have z2 := gI_mul (x := 20) (y := (nI k)) (by (try rw [z0]); (try rw [z1]); omega) (by (try rw [z0]); (try rw [z1]); omega)); (try rw [z0, z1] at z2); (try rw [z0] at z2); (try rw [z1] at z2); have z3 : (3 : Int32).toInt = 3 := (by decide); (try have z4 := gI_add (x := (20 * (nI k))) (y := 3) (by omega) (by omega)); (try rw [vp_in_iff]); omega) dX7_moves_105 ?_
                                                refine lv_iadd hx hb dX7_moves_106 ?_
                                                refine lv_istore (lv' := [(4, .int ((2 * ((2 * ((2 * ((2 * ((2 * ((2 * ((2 * ((2 * ((2 * ((2 * ((2 * ((2 * ((2 * ((2 * ((2 * ((2 * ((2 * 0) + ((it_X7_moves_2 w ring p0 p1 640) (Int32.toNatClampNeg ((20 * (nI k)) + 19))))) + ((it_X7_moves_2 w ring p0 p1 640) (Int32.toNatClampNeg ((20 * (nI k)) + 18))))) + ((it_X7_moves_2 w ring p0 p1 640) (Int32.toNatClampNeg ((20 * (nI k)) + 17))))) + ((it_X7_moves_2 w ring p0 p1 640) (Int32.toNatClampNeg ((20 * (nI k)) + 16))))) + ((it_X7_moves_2 w ring p0 p1 640) (Int32.toNatClampNeg ((20 * (nI k)) + 15))))) + ((it_X7_moves_2 w ring p0 p1 640) (Int32.toNatClampNeg ((20 * (nI k)) + 14))))) + ((it_X7_moves_2 w ring p0 p1 640) (Int32.toNatClampNeg ((20 * (nI k)) + 13))))) + ((it_X7_moves_2 w ring p0 p1 640) (Int32.toNatClampNeg ((20 * (nI k)) + 12))))) + ((it_X7_moves_2 w ring p0 p1 640) (Int32.toNatClampNeg ((20 * (nI k)) + 11))))) + ((it_X7_moves_2 w ring p0 p1 640) (Int32.toNatClampNeg ((20 * (nI k)) + 10))))) + ((it_X7_moves_2 w ring p0 p1 640) (Int32.toNatClampNeg ((20 * (nI k)) + 9))))) + ((it_X7_moves_2 w ring p0 p1 640) (Int32.toNatClampNeg ((20 * (nI k)) + 8))))) + ((it_X7_moves_2 w ring p0 p1 640) (Int32.toNatClampNeg ((20 * (nI k)) + 7))))) + ((it_X7_moves_2 w ring p0 p1 640) (Int32.toNatClampNeg ((20 * (nI k)) + 6))))) + ((it_X7_moves_2 w ring p0 p1 640) (Int32.toNatClampNeg ((20 * (nI k)) + 5))))) + ((it_X7_moves_2 w ring p0 p1 640) (Int32.toNatClampNeg ((20 * (nI k)) + 4))))) + ((it_X7_moves_2 w ring p0 p1 640) (Int32.toNatClampNeg ((20 * (nI k)) + 3))))), (5, .int 3), (3, .int (nI k)), (0, .ref m0), (1, .int p0), (2, .int p1)]) hx hb dX7_moves_107 hl (by decide) rfl (fun ls hl => ?_)
                                                refine lv_iinc (v := 2) (lv' := [(5, .int 2), (4, .int ((2 * ((2 * ((2 * ((2 * ((2 * ((2 * ((2 * ((2 * ((2 * ((2 * ((2 * ((2 * ((2 * ((2 * ((2 * ((2 * ((2 * 0) + ((it_X7_moves_2 w ring p0 p1 640) (Int32.toNatClampNeg ((20 * (nI k)) + 19))))) + ((it_X7_moves_2 w ring p0 p1 640) (Int32.toNatClampNeg ((20 * (nI k)) + 18))))) + ((it_X7_moves_2 w ring p0 p1 640) (Int32.toNatClampNeg ((20 * (nI k)) + 17))))) + ((it_X7_moves_2 w ring p0 p1 640) (Int32.toNatClampNeg ((20 * (nI k)) + 16))))) + ((it_X7_moves_2 w ring p0 p1 640) (Int32.toNatClampNeg ((20 * (nI k)) + 15))))) + ((it_X7_moves_2 w ring p0 p1 640) (Int32.toNatClampNeg ((20 * (nI k)) + 14))))) + ((it_X7_moves_2 w ring p0 p1 640) (Int32.toNatClampNeg ((20 * (nI k)) + 13))))) + ((it_X7_moves_2 w ring p0 p1 640) (Int32.toNatClampNeg ((20 * (nI k)) + 12))))) + ((it_X7_moves_2 w ring p0 p1 640) (Int32.toNatClampNeg ((20 * (nI k)) + 11))))) + ((it_X7_moves_2 w ring p0 p1 640) (Int32.toNatClampNeg ((20 * (nI k)) + 10))))) + ((it_X7_moves_2 w ring p0 p1 640) (Int32.toNatClampNeg ((20 * (nI k)) + 9))))) + ((it_X7_moves_2 w ring p0 p1 640) (Int32.toNatClampNeg ((20 * (nI k)) + 8))))) + ((it_X7_moves_2 w ring p0 p1 640) (Int32.toNatClampNeg ((20 * (nI k)) + 7))))) + ((it_X7_moves_2 w ring p0 p1 640) (Int32.toNatClampNeg ((20 * (nI k)) + 6))))) + ((it_X7_moves_2 w ring p0 p1 640) (Int32.toNatClampNeg ((20 * (nI k)) + 5))))) + ((it_X7_moves_2 w ring p0 p1 640) (Int32.toNatClampNeg ((20 * (nI k)) + 4))))) + ((it_X7_moves_2 w ring p0 p1 640) (Int32.toNatClampNeg ((20 * (nI k)) + 3))))), (3, .int (nI k)), (0, .ref m0), (1, .int p0), (2, .int p1)]) hx hb dX7_moves_109 hl (k := 1) rfl rfl (by decide) rfl (fun ls hl => ?_)
                                                refine lv_goto (tgt := 85) hx hb dX7_moves_112 (by decide) ?_
                                                refine lv_iload hx hb dX7_moves_85 (lv_at hl 0 rfl) ?_
                                                refine lv_if_lt (tgt := 115) hx hb dX7_moves_87 (by decide) (fun c_21 => ?_) (fun c_21 => ?_)
                                                · exact absurd c_21 (by decide)
                                                · skip
                                                  refine lv_iconst (v := 2) hx hb dX7_moves_90 (by decide) ?_
                                                  refine lv_iload hx hb dX7_moves_91 (lv_at hl 1 rfl) ?_
                                                  refine lv_imul hx hb dX7_moves_93 ?_
                                                  refine lv_aload_n hx hb dX7_moves_94 rfl (lv_at hl 3 rfl) ?_
                                                  refine va_get (D := G.1) (ci := 10) (v := .ref m18) (C := RX7) (T := TX7) (N := 21) hx hb hts in_X7 hown hK hP 0 rfl rfl 18 (by decide) (hts _ k_fl_X7_69) (fun _ h9 => h9) rfl dX7_moves_95 ?_
                                                  refine lv_bipush (v := 20) hx hb dX7_moves_98 (by decide) ?_
                                                  refine lv_iload_n hx hb dX7_moves_100 rfl (lv_at hl 2 rfl) ?_
                                                  refine lv_imul hx hb dX7_moves_101 ?_
                                                  refine lv_iload hx hb dX7_moves_102 (lv_at hl 0 rfl) ?_
                                                  refine lv_iadd hx hb dX7_moves_104 ?_
                                                  refine va_iald hx hb hK hP 2 0 rfl rfl (by have z0 : (20 : Int32).toInt = 20 := (by decide); have z1 := nI_toInt (n := k) (by omega); (try have z2 := gI_mul (x := 20) (y := (nI k)) (by (try rw [z0]); (try rw [z1]); omega) (by (try rw [z0]); (try rw [z1]); omega)); (try rw [z0, z1] at z2); (try rw [z0] at z2); (try rw [z1] at z2); have z3 : (2 : Int32).toInt = 2 := (by decide); (try have z4 := gI_add (x := (20 * (nI k))) (y := 2) (by omega) (by omega)); (try rw [vp_in_iff]); omega) dX7_moves_105 ?_
                                                  refine lv_iadd hx hb dX7_moves_106 ?_
                                                  refine lv_istore (lv' := [(4, .int ((2 * ((2 * ((2 * ((2 * ((2 * ((2 * ((2 * ((2 * ((2 * ((2 * ((2 * ((2 * ((2 * ((2 * ((2 * ((2 * ((2 * ((2 * 0) + ((it_X7_moves_2 w ring p0 p1 640) (Int32.toNatClampNeg ((20 * (nI k)) + 19))))) + ((it_X7_moves_2 w ring p0 p1 640) (Int32.toNatClampNeg ((20 * (nI k)) + 18))))) + ((it_X7_moves_2 w ring p0 p1 640) (Int32.toNatClampNeg ((20 * (nI k)) + 17))))) + ((it_X7_moves_2 w ring p0 p1 640) (Int32.toNatClampNeg ((20 * (nI k)) + 16))))) + ((it_X7_moves_2 w ring p0 p1 640) (Int32.toNatClampNeg ((20 * (nI k)) + 15))))) + ((it_X7_moves_2 w ring p0 p1 640) (Int32.toNatClampNeg ((20 * (nI k)) + 14))))) + ((it_X7_moves_2 w ring p0 p1 640) (Int32.toNatClampNeg ((20 * (nI k)) + 13))))) + ((it_X7_moves_2 w ring p0 p1 640) (Int32.toNatClampNeg ((20 * (nI k)) + 12))))) + ((it_X7_moves_2 w ring p0 p1 640) (Int32.toNatClampNeg ((20 * (nI k)) + 11))))) + ((it_X7_moves_2 w ring p0 p1 640) (Int32.toNatClampNeg ((20 * (nI k)) + 10))))) + ((it_X7_moves_2 w ring p0 p1 640) (Int32.toNatClampNeg ((20 * (nI k)) + 9))))) + ((it_X7_moves_2 w ring p0 p1 640) (Int32.toNatClampNeg ((20 * (nI k)) + 8))))) + ((it_X7_moves_2 w ring p0 p1 640) (Int32.toNatClampNeg ((20 * (nI k)) + 7))))) + ((it_X7_moves_2 w ring p0 p1 640) (Int32.toNatClampNeg ((20 * (nI k)) + 6))))) + ((it_X7_moves_2 w ring p0 p1 640) (Int32.toNatClampNeg ((20 * (nI k)) + 5))))) + ((it_X7_moves_2 w ring p0 p1 640) (Int32.toNatClampNeg ((20 * (nI k)) + 4))))) + ((it_X7_moves_2 w ring p0 p1 640) (Int32.toNatClampNeg ((20 * (nI k)) + 3))))) + ((it_X7_moves_2 w ring p0 p1 640) (Int32.toNatClampNeg ((20 * (nI k)) + 2))))), (5, .int 2), (3, .int (nI k)), (0, .ref m0), (1, .int p0), (2, .int p1)]) hx hb dX7_moves_107 hl (by decide) rfl (fun ls hl => ?_)
                                                  refine lv_iinc (v := 1) (lv' := [(5, .int 1), (4, .int ((2 * ((2 * ((2 * ((2 * ((2 * ((2 * ((2 * ((2 * ((2 * ((2 * ((2 * ((2 * ((2 * ((2 * ((2 * ((2 * ((2 * ((2 * 0) + ((it_X7_moves_2 w ring p0 p1 640) (Int32.toNatClampNeg ((20 * (nI k)) + 19))))) + ((it_X7_moves_2 w ring p0 p1 640) (Int32.toNatClampNeg ((20 * (nI k)) + 18))))) + ((it_X7_moves_2 w ring p0 p1 640) (Int32.toNatClampNeg ((20 * (nI k)) + 17))))) + ((it_X7_moves_2 w ring p0 p1 640) (Int32.toNatClampNeg ((20 * (nI k)) + 16))))) + ((it_X7_moves_2 w ring p0 p1 640) (Int32.toNatClampNeg ((20 * (nI k)) + 15))))) + ((it_X7_moves_2 w ring p0 p1 640) (Int32.toNatClampNeg ((20 * (nI k)) + 14))))) + ((it_X7_moves_2 w ring p0 p1 640) (Int32.toNatClampNeg ((20 * (nI k)) + 13))))) + ((it_X7_moves_2 w ring p0 p1 640) (Int32.toNatClampNeg ((20 * (nI k)) + 12))))) + ((it_X7_moves_2 w ring p0 p1 640) (Int32.toNatClampNeg ((20 * (nI k)) + 11))))) + ((it_X7_moves_2 w ring p0 p1 640) (Int32.toNatClampNeg ((20 * (nI k)) + 10))))) + ((it_X7_moves_2 w ring p0 p1 640) (Int32.toNatClampNeg ((20 * (nI k)) + 9))))) + ((it_X7_moves_2 w ring p0 p1 640) (Int32.toNatClampNeg ((20 * (nI k)) + 8))))) + ((it_X7_moves_2 w ring p0 p1 640) (Int32.toNatClampNeg ((20 * (nI k)) + 7))))) + ((it_X7_moves_2 w ring p0 p1 640) (Int32.toNatClampNeg ((20 * (nI k)) + 6))))) + ((it_X7_moves_2 w ring p0 p1 640) (Int32.toNatClampNeg ((20 * (nI k)) + 5))))) + ((it_X7_moves_2 w ring p0 p1 640) (Int32.toNatClampNeg ((20 * (nI k)) + 4))))) + ((it_X7_moves_2 w ring p0 p1 640) (Int32.toNatClampNeg ((20 * (nI k)) + 3))))) + ((it_X7_moves_2 w ring p0 p1 640) (Int32.toNatClampNeg ((20 * (nI k)) + 2))))), (3, .int (nI k)), (0, .ref m0), (1, .int p0), (2, .int p1)]) hx hb dX7_moves_109 hl (k := 1) rfl rfl (by decide) rfl (fun ls hl => ?_)
                                                  refine lv_goto (tgt := 85) hx hb dX7_moves_112 (by decide) ?_
                                                  refine lv_iload hx hb dX7_moves_85 (lv_at hl 0 rfl) ?_
                                                  refine lv_if_lt (tgt := 115) hx hb dX7_moves_87 (by decide) (fun c_22 => ?_) (fun c_22 => ?_)
                                                  · exact absurd c_22 (by decide)
                                                  · skip
                                                    refine lv_iconst (v := 2) hx hb dX7_moves_90 (by decide) ?_
                                                    refine lv_iload hx hb dX7_moves_91 (lv_at hl 1 rfl) ?_
                                                    refine lv_imul hx hb dX7_moves_93 ?_
                                                    refine lv_aload_n hx hb dX7_moves_94 rfl (lv_at hl 3 rfl) ?_
                                                    refine va_get (D := G.1) (ci := 10) (v := .ref m18) (C := RX7) (T := TX7) (N := 21) hx hb hts in_X7 hown hK hP 0 rfl rfl 18 (by decide) (hts _ k_fl_X7_69) (fun _ h9 => h9) rfl dX7_moves_95 ?_
                                                    refine lv_bipush (v := 20) hx hb dX7_moves_98 (by decide) ?_
                                                    refine lv_iload_n hx hb dX7_moves_100 rfl (lv_at hl 2 rfl) ?_
                                                    refine lv_imul hx hb dX7_moves_101 ?_
                                                    refine lv_iload hx hb dX7_moves_102 (lv_at hl 0 rfl) ?_
                                                    refine lv_iadd hx hb dX7_moves_104 ?_
                                                    refine va_iald hx hb hK hP 2 0 rfl rfl (by have z0 : (20 : Int32).toInt = 20 := (by decide); have z1 := nI_toInt (n := k) (by omega); (try have z2 := gI_mul (x := 20) (y := (nI k)) (by (try rw [z0]); (try rw [z1]); omega) (by (try rw [z0]); (try rw [z1]); omega)); (try rw [z0, z1] at z2); (try rw [z0] at z2); (try rw [z1] at z2); have z3 : (1 : Int32).toInt = 1 := (by decide); (try have z4 := gI_add (x := (20 * (nI k))) (y := 1) (by omega) (by omega)); (try rw [vp_in_iff]); omega) dX7_moves_105 ?_
                                                    refine lv_iadd hx hb dX7_moves_106 ?_
                                                    refine lv_istore (lv' := [(4, .int ((2 * ((2 * ((2 * ((2 * ((2 * ((2 * ((2 * ((2 * ((2 * ((2 * ((2 * ((2 * ((2 * ((2 * ((2 * ((2 * ((2 * ((2 * ((2 * 0) + ((it_X7_moves_2 w ring p0 p1 640) (Int32.toNatClampNeg ((20 * (nI k)) + 19))))) + ((it_X7_moves_2 w ring p0 p1 640) (Int32.toNatClampNeg ((20 * (nI k)) + 18))))) + ((it_X7_moves_2 w ring p0 p1 640) (Int32.toNatClampNeg ((20 * (nI k)) + 17))))) + ((it_X7_moves_2 w ring p0 p1 640) (Int32.toNatClampNeg ((20 * (nI k)) + 16))))) + ((it_X7_moves_2 w ring p0 p1 640) (Int32.toNatClampNeg ((20 * (nI k)) + 15))))) + ((it_X7_moves_2 w ring p0 p1 640) (Int32.toNatClampNeg ((20 * (nI k)) + 14))))) + ((it_X7_moves_2 w ring p0 p1 640) (Int32.toNatClampNeg ((20 * (nI k)) + 13))))) + ((it_X7_moves_2 w ring p0 p1 640) (Int32.toNatClampNeg ((20 * (nI k)) + 12))))) + ((it_X7_moves_2 w ring p0 p1 640) (Int32.toNatClampNeg ((20 * (nI k)) + 11))))) + ((it_X7_moves_2 w ring p0 p1 640) (Int32.toNatClampNeg ((20 * (nI k)) + 10))))) + ((it_X7_moves_2 w ring p0 p1 640) (Int32.toNatClampNeg ((20 * (nI k)) + 9))))) + ((it_X7_moves_2 w ring p0 p1 640) (Int32.toNatClampNeg ((20 * (nI k)) + 8))))) + ((it_X7_moves_2 w ring p0 p1 640) (Int32.toNatClampNeg ((20 * (nI k)) + 7))))) + ((it_X7_moves_2 w ring p0 p1 640) (Int32.toNatClampNeg ((20 * (nI k)) + 6))))) + ((it_X7_moves_2 w ring p0 p1 640) (Int32.toNatClampNeg ((20 * (nI k)) + 5))))) + ((it_X7_moves_2 w ring p0 p1 640) (Int32.toNatClampNeg ((20 * (nI k)) + 4))))) + ((it_X7_moves_2 w ring p0 p1 640) (Int32.toNatClampNeg ((20 * (nI k)) + 3))))) + ((it_X7_moves_2 w ring p0 p1 640) (Int32.toNatClampNeg ((20 * (nI k)) + 2))))) + ((it_X7_moves_2 w ring p0 p1 640) (Int32.toNatClampNeg ((20 * (nI k)) + 1))))), (5, .int 1), (3, .int (nI k)), (0, .ref m0), (1, .int p0), (2, .int p1)]) hx hb dX7_moves_107 hl (by decide) rfl (fun ls hl => ?_)
                                                    refine lv_iinc (v := 0) (lv' := [(5, .int 0), (4, .int ((2 * ((2 * ((2 * ((2 * ((2 * ((2 * ((2 * ((2 * ((2 * ((2 * ((2 * ((2 * ((2 * ((2 * ((2 * ((2 * ((2 * ((2 * ((2 * 0) + ((it_X7_moves_2 w ring p0 p1 640) (Int32.toNatClampNeg ((20 * (nI k)) + 19))))) + ((it_X7_moves_2 w ring p0 p1 640) (Int32.toNatClampNeg ((20 * (nI k)) + 18))))) + ((it_X7_moves_2 w ring p0 p1 640) (Int32.toNatClampNeg ((20 * (nI k)) + 17))))) + ((it_X7_moves_2 w ring p0 p1 640) (Int32.toNatClampNeg ((20 * (nI k)) + 16))))) + ((it_X7_moves_2 w ring p0 p1 640) (Int32.toNatClampNeg ((20 * (nI k)) + 15))))) + ((it_X7_moves_2 w ring p0 p1 640) (Int32.toNatClampNeg ((20 * (nI k)) + 14))))) + ((it_X7_moves_2 w ring p0 p1 640) (Int32.toNatClampNeg ((20 * (nI k)) + 13))))) + ((it_X7_moves_2 w ring p0 p1 640) (Int32.toNatClampNeg ((20 * (nI k)) + 12))))) + ((it_X7_moves_2 w ring p0 p1 640) (Int32.toNatClampNeg ((20 * (nI k)) + 11))))) + ((it_X7_moves_2 w ring p0 p1 640) (Int32.toNatClampNeg ((20 * (nI k)) + 10))))) + ((it_X7_moves_2 w ring p0 p1 640) (Int32.toNatClampNeg ((20 * (nI k)) + 9))))) + ((it_X7_moves_2 w ring p0 p1 640) (Int32.toNatClampNeg ((20 * (nI k)) + 8))))) + ((it_X7_moves_2 w ring p0 p1 640) (Int32.toNatClampNeg ((20 * (nI k)) + 7))))) + ((it_X7_moves_2 w ring p0 p1 640) (Int32.toNatClampNeg ((20 * (nI k)) + 6))))) + ((it_X7_moves_2 w ring p0 p1 640) (Int32.toNatClampNeg ((20 * (nI k)) + 5))))) + ((it_X7_moves_2 w ring p0 p1 640) (Int32.toNatClampNeg ((20 * (nI k)) + 4))))) + ((it_X7_moves_2 w ring p0 p1 640) (Int32.toNatClampNeg ((20 * (nI k)) + 3))))) + ((it_X7_moves_2 w ring p0 p1 640) (Int32.toNatClampNeg ((20 * (nI k)) + 2))))) + ((it_X7_moves_2 w ring p0 p1 640) (Int32.toNatClampNeg ((20 * (nI k)) + 1))))), (3, .int (nI k)), (0, .ref m0), (1, .int p0), (2, .int p1)]) hx hb dX7_moves_109 hl (k := 1) rfl rfl (by decide) rfl (fun ls hl => ?_)
                                                    refine lv_goto (tgt := 85) hx hb dX7_moves_112 (by decide) ?_
                                                    refine lv_iload hx hb dX7_moves_85 (lv_at hl 0 rfl) ?_
                                                    refine lv_if_lt (tgt := 115) hx hb dX7_moves_87 (by decide) (fun c_23 => ?_) (fun c_23 => ?_)
                                                    · exact absurd c_23 (by decide)
                                                    · skip
                                                      refine lv_iconst (v := 2) hx hb dX7_moves_90 (by decide) ?_
                                                      refine lv_iload hx hb dX7_moves_91 (lv_at hl 1 rfl) ?_
                                                      refine lv_imul hx hb dX7_moves_93 ?_
                                                      refine lv_aload_n hx hb dX7_moves_94 rfl (lv_at hl 3 rfl) ?_
                                                      refine va_get (D := G.1) (ci := 10) (v := .ref m18) (C := RX7) (T := TX7) (N := 21) hx hb hts in_X7 hown hK hP 0 rfl rfl 18 (by decide) (hts _ k_fl_X7_69) (fun _ h9 => h9) rfl dX7_moves_95 ?_
                                                      refine lv_bipush (v := 20) hx hb dX7_moves_98 (by decide) ?_
                                                      refine lv_iload_n hx hb dX7_moves_100 rfl (lv_at hl 2 rfl) ?_
                                                      refine lv_imul hx hb dX7_moves_101 ?_
                                                      refine lv_iload hx hb dX7_moves_102 (lv_at hl 0 rfl) ?_
                                                      refine lv_iadd hx hb dX7_moves_104 ?_
                                                      refine va_iald hx hb hK hP 2 0 rfl rfl (by have z0 : (20 : Int32).toInt = 20 := (by decide); have z1 := nI_toInt (n := k) (by omega); (try have z2 := gI_mul (x := 20) (y := (nI k)) (by (try rw [z0]); (try rw [z1]); omega) (by (try rw [z0]); (try rw [z1]); omega)); (try rw [z0, z1] at z2); (try rw [z0] at z2); (try rw [z1] at z2); have z3 : (0 : Int32).toInt = 0 := (by decide); (try have z4 := gI_add (x := (20 * (nI k))) (y := 0) (by omega) (by omega)); (try rw [vp_in_iff]); omega) dX7_moves_105 ?_
                                                      refine lv_iadd hx hb dX7_moves_106 ?_
                                                      refine lv_istore (lv' := [(4, .int ((2 * ((2 * ((2 * ((2 * ((2 * ((2 * ((2 * ((2 * ((2 * ((2 * ((2 * ((2 * ((2 * ((2 * ((2 * ((2 * ((2 * ((2 * ((2 * ((2 * 0) + ((it_X7_moves_2 w ring p0 p1 640) (Int32.toNatClampNeg ((20 * (nI k)) + 19))))) + ((it_X7_moves_2 w ring p0 p1 640) (Int32.toNatClampNeg ((20 * (nI k)) + 18))))) + ((it_X7_moves_2 w ring p0 p1 640) (Int32.toNatClampNeg ((20 * (nI k)) + 17))))) + ((it_X7_moves_2 w ring p0 p1 640) (Int32.toNatClampNeg ((20 * (nI k)) + 16))))) + ((it_X7_moves_2 w ring p0 p1 640) (Int32.toNatClampNeg ((20 * (nI k)) + 15))))) + ((it_X7_moves_2 w ring p0 p1 640) (Int32.toNatClampNeg ((20 * (nI k)) + 14))))) + ((it_X7_moves_2 w ring p0 p1 640) (Int32.toNatClampNeg ((20 * (nI k)) + 13))))) + ((it_X7_moves_2 w ring p0 p1 640) (Int32.toNatClampNeg ((20 * (nI k)) + 12))))) + ((it_X7_moves_2 w ring p0 p1 640) (Int32.toNatClampNeg ((20 * (nI k)) + 11))))) + ((it_X7_moves_2 w ring p0 p1 640) (Int32.toNatClampNeg ((20 * (nI k)) + 10))))) + ((it_X7_moves_2 w ring p0 p1 640) (Int32.toNatClampNeg ((20 * (nI k)) + 9))))) + ((it_X7_moves_2 w ring p0 p1 640) (Int32.toNatClampNeg ((20 * (nI k)) + 8))))) + ((it_X7_moves_2 w ring p0 p1 640) (Int32.toNatClampNeg ((20 * (nI k)) + 7))))) + ((it_X7_moves_2 w ring p0 p1 640) (Int32.toNatClampNeg ((20 * (nI k)) + 6))))) + ((it_X7_moves_2 w ring p0 p1 640) (Int32.toNatClampNeg ((20 * (nI k)) + 5))))) + ((it_X7_moves_2 w ring p0 p1 640) (Int32.toNatClampNeg ((20 * (nI k)) + 4))))) + ((it_X7_moves_2 w ring p0 p1 640) (Int32.toNatClampNeg ((20 * (nI k)) + 3))))) + ((it_X7_moves_2 w ring p0 p1 640) (Int32.toNatClampNeg ((20 * (nI k)) + 2))))) + ((it_X7_moves_2 w ring p0 p1 640) (Int32.toNatClampNeg ((20 * (nI k)) + 1))))) + ((it_X7_moves_2 w ring p0 p1 640) (Int32.toNatClampNeg ((20 * (nI k)) + 0))))), (5, .int 0), (3, .int (nI k)), (0, .ref m0), (1, .int p0), (2, .int p1)]) hx hb dX7_moves_107 hl (by decide) rfl (fun ls hl => ?_)
                                                      refine lv_iinc (v := (-1)) (lv' := [(5, .int (-1)), (4, .int ((2 * ((2 * ((2 * ((2 * ((2 * ((2 * ((2 * ((2 * ((2 * ((2 * ((2 * ((2 * ((2 * ((2 * ((2 * ((2 * ((2 * ((2 * ((2 * ((2 * 0) + ((it_X7_moves_2 w ring p0 p1 640) (Int32.toNatClampNeg ((20 * (nI k)) + 19))))) + ((it_X7_moves_2 w ring p0 p1 640) (Int32.toNatClampNeg ((20 * (nI k)) + 18))))) + ((it_X7_moves_2 w ring p0 p1 640) (Int32.toNatClampNeg ((20 * (nI k)) + 17))))) + ((it_X7_moves_2 w ring p0 p1 640) (Int32.toNatClampNeg ((20 * (nI k)) + 16))))) + ((it_X7_moves_2 w ring p0 p1 640) (Int32.toNatClampNeg ((20 * (nI k)) + 15))))) + ((it_X7_moves_2 w ring p0 p1 640) (Int32.toNatClampNeg ((20 * (nI k)) + 14))))) + ((it_X7_moves_2 w ring p0 p1 640) (Int32.toNatClampNeg ((20 * (nI k)) + 13))))) + ((it_X7_moves_2 w ring p0 p1 640) (Int32.toNatClampNeg ((20 * (nI k)) + 12))))) + ((it_X7_moves_2 w ring p0 p1 640) (Int32.toNatClampNeg ((20 * (nI k)) + 11))))) + ((it_X7_moves_2 w ring p0 p1 640) (Int32.toNatClampNeg ((20 * (nI k)) + 10))))) + ((it_X7_moves_2 w ring p0 p1 640) (Int32.toNatClampNeg ((20 * (nI k)) + 9))))) + ((it_X7_moves_2 w ring p0 p1 640) (Int32.toNatClampNeg ((20 * (nI k)) + 8))))) + ((it_X7_moves_2 w ring p0 p1 640) (Int32.toNatClampNeg ((20 * (nI k)) + 7))))) + ((it_X7_moves_2 w ring p0 p1 640) (Int32.toNatClampNeg ((20 * (nI k)) + 6))))) + ((it_X7_moves_2 w ring p0 p1 640) (Int32.toNatClampNeg ((20 * (nI k)) + 5))))) + ((it_X7_moves_2 w ring p0 p1 640) (Int32.toNatClampNeg ((20 * (nI k)) + 4))))) + ((it_X7_moves_2 w ring p0 p1 640) (Int32.toNatClampNeg ((20 * (nI k)) + 3))))) + ((it_X7_moves_2 w ring p0 p1 640) (Int32.toNatClampNeg ((20 * (nI k)) + 2))))) + ((it_X7_moves_2 w ring p0 p1 640) (Int32.toNatClampNeg ((20 * (nI k)) + 1))))) + ((it_X7_moves_2 w ring p0 p1 640) (Int32.toNatClampNeg ((20 * (nI k)) + 0))))), (3, .int (nI k)), (0, .ref m0), (1, .int p0), (2, .int p1)]) hx hb dX7_moves_109 hl (k := 1) rfl rfl (by decide) rfl (fun ls hl => ?_)
                                                      refine lv_goto (tgt := 85) hx hb dX7_moves_112 (by decide) ?_
                                                      refine lv_iload hx hb dX7_moves_85 (lv_at hl 0 rfl) ?_
                                                      refine lv_if_lt (tgt := 115) hx hb dX7_moves_87 (by decide) (fun c_24 => ?_) (fun c_24 => ?_)
                                                      · skip
                                                        refine lv_aload_n hx hb dX7_moves_115 rfl (lv_at hl 3 rfl) ?_
                                                        refine va_get (D := G.1) (ci := 10) (v := .ref m1) (C := RX7) (T := TX7) (N := 21) hx hb hts in_X7 hown hK hP 0 rfl rfl 1 (by decide) (hts _ k_fl_X7_7) (fun _ h9 => h9) rfl dX7_moves_116 ?_
                                                        refine lv_sipush (v := 414) hx hb dX7_moves_119 (by decide) ?_
                                                        refine lv_bipush (v := 32) hx hb dX7_moves_122 (by decide) ?_
                                                        refine lv_iload_n hx hb dX7_moves_124 rfl (lv_at hl 4 rfl) ?_
                                                        refine lv_imul hx hb dX7_moves_125 ?_
                                                        refine lv_iadd hx hb dX7_moves_126 ?_
                                                        refine lv_iload_n hx hb dX7_moves_127 rfl (lv_at hl 2 rfl) ?_
                                                        refine lv_iadd hx hb dX7_moves_128 ?_
                                                        refine lv_iload hx hb dX7_moves_129 (lv_at hl 1 rfl) ?_
                                                        refine va_iast hx hb hK hP hD hS 1 0 rfl rfl (by have z0 : (414 : Int32).toInt = 414 := (by decide); have z1 : (32 : Int32).toInt = 32 := (by decide); (try have z3 := gI_mul (x := 32) (y := p0) (by (try rw [z1]); (try rw [z2]); omega) (by (try rw [z1]); (try rw [z2]); omega)); (try rw [z1, z2] at z3); (try rw [z1] at z3); (try rw [z2] at z3); (try have z4 := gI_add (x := 414) (y := (32 * p0)) (by omega) (by omega)); have z5 := nI_toInt (n := k) (by omega); (try have z6 := gI_add (x := (414 + (32 * p0))) (y := (nI k)) (by omega) (by omega)); (try rw [vp_in_iff]); omega) dX7_moves_131 (fun H locs hP hD hS => ?_)
                                                        replace hP : va_P G.1 vwCl [(m0, .inr (10, [.int rz, .ref m1, .ref m2, .ref m3, .int hf, .int hs, .ref m6, .int len, .int ec, .int ep, .int pos, .int bg, .int bad, .ref m13, .ref m14, .int plc, .int sta, .ref m17, .ref m18, .ref m19, .int shm])), (m1, .inl (G.2.1.1, 670, .inl (upd (it_X7_moves_72 w ring p0 p1 k) (Int32.toNatClampNeg ((414 + (32 * p0)) + (nI k))) ((2 * ((2 * ((2 * ((2 * ((2 * ((2 * ((2 * ((2 * ((2 * ((2 * ((2 * ((2 * ((2 * ((2 * ((2 * ((2 * ((2 * ((2 * ((2 * ((2 * 0) + ((it_X7_moves_2 w ring p0 p1 640) (Int32.toNatClampNeg ((20 * (nI k)) + 19))))) + ((it_X7_moves_2 w ring p0 p1 640) (Int32.toNatClampNeg ((20 * (nI k)) + 18))))) + ((it_X7_moves_2 w ring p0 p1 640) (Int32.toNatClampNeg ((20 * (nI k)) + 17))))) + ((it_X7_moves_2 w ring p0 p1 640) (Int32.toNatClampNeg ((20 * (nI k)) + 16))))) + ((it_X7_moves_2 w ring p0 p1 640) (Int32.toNatClampNeg ((20 * (nI k)) + 15))))) + ((it_X7_moves_2 w ring p0 p1 640) (Int32.toNatClampNeg ((20 * (nI k)) + 14))))) + ((it_X7_moves_2 w ring p0 p1 640) (Int32.toNatClampNeg ((20 * (nI k)) + 13))))) + ((it_X7_moves_2 w ring p0 p1 640) (Int32.toNatClampNeg ((20 * (nI k)) + 12))))) + ((it_X7_moves_2 w ring p0 p1 640) (Int32.toNatClampNeg ((20 * (nI k)) + 11))))) + ((it_X7_moves_2 w ring p0 p1 640) (Int32.toNatClampNeg ((20 * (nI k)) + 10))))) + ((it_X7_moves_2 w ring p0 p1 640) (Int32.toNatClampNeg ((20 * (nI k)) + 9))))) + ((it_X7_moves_2 w ring p0 p1 640) (Int32.toNatClampNeg ((20 * (nI k)) + 8))))) + ((it_X7_moves_2 w ring p0 p1 640) (Int32.toNatClampNeg ((20 * (nI k)) + 7))))) + ((it_X7_moves_2 w ring p0 p1 640) (Int32.toNatClampNeg ((20 * (nI k)) + 6))))) + ((it_X7_moves_2 w ring p0 p1 640) (Int32.toNatClampNeg ((20 * (nI k)) + 5))))) + ((it_X7_moves_2 w ring p0 p1 640) (Int32.toNatClampNeg ((20 * (nI k)) + 4))))) + ((it_X7_moves_2 w ring p0 p1 640) (Int32.toNatClampNeg ((20 * (nI k)) + 3))))) + ((it_X7_moves_2 w ring p0 p1 640) (Int32.toNatClampNeg ((20 * (nI k)) + 2))))) + ((it_X7_moves_2 w ring p0 p1 640) (Int32.toNatClampNeg ((20 * (nI k)) + 1))))) + ((it_X7_moves_2 w ring p0 p1 640) (Int32.toNatClampNeg ((20 * (nI k)) + 0))))))), (m18, .inl (G.2.1.1, 640, .inl (it_X7_moves_2 w ring p0 p1 640)))] H := hP
                                                        replace hD : va_D A [(m0, .inr (10, [.int rz, .ref m1, .ref m2, .ref m3, .int hf, .int hs, .ref m6, .int len, .int ec, .int ep, .int pos, .int bg, .int bad, .ref m13, .ref m14, .int plc, .int sta, .ref m17, .ref m18, .ref m19, .int shm])), (m1, .inl (G.2.1.1, 670, .inl (upd (it_X7_moves_72 w ring p0 p1 k) (Int32.toNatClampNeg ((414 + (32 * p0)) + (nI k))) ((2 * ((2 * ((2 * ((2 * ((2 * ((2 * ((2 * ((2 * ((2 * ((2 * ((2 * ((2 * ((2 * ((2 * ((2 * ((2 * ((2 * ((2 * ((2 * ((2 * 0) + ((it_X7_moves_2 w ring p0 p1 640) (Int32.toNatClampNeg ((20 * (nI k)) + 19))))) + ((it_X7_moves_2 w ring p0 p1 640) (Int32.toNatClampNeg ((20 * (nI k)) + 18))))) + ((it_X7_moves_2 w ring p0 p1 640) (Int32.toNatClampNeg ((20 * (nI k)) + 17))))) + ((it_X7_moves_2 w ring p0 p1 640) (Int32.toNatClampNeg ((20 * (nI k)) + 16))))) + ((it_X7_moves_2 w ring p0 p1 640) (Int32.toNatClampNeg ((20 * (nI k)) + 15))))) + ((it_X7_moves_2 w ring p0 p1 640) (Int32.toNatClampNeg ((20 * (nI k)) + 14))))) + ((it_X7_moves_2 w ring p0 p1 640) (Int32.toNatClampNeg ((20 * (nI k)) + 13))))) + ((it_X7_moves_2 w ring p0 p1 640) (Int32.toNatClampNeg ((20 * (nI k)) + 12))))) + ((it_X7_moves_2 w ring p0 p1 640) (Int32.toNatClampNeg ((20 * (nI k)) + 11))))) + ((it_X7_moves_2 w ring p0 p1 640) (Int32.toNatClampNeg ((20 * (nI k)) + 10))))) + ((it_X7_moves_2 w ring p0 p1 640) (Int32.toNatClampNeg ((20 * (nI k)) + 9))))) + ((it_X7_moves_2 w ring p0 p1 640) (Int32.toNatClampNeg ((20 * (nI k)) + 8))))) + ((it_X7_moves_2 w ring p0 p1 640) (Int32.toNatClampNeg ((20 * (nI k)) + 7))))) + ((it_X7_moves_2 w ring p0 p1 640) (Int32.toNatClampNeg ((20 * (nI k)) + 6))))) + ((it_X7_moves_2 w ring p0 p1 640) (Int32.toNatClampNeg ((20 * (nI k)) + 5))))) + ((it_X7_moves_2 w ring p0 p1 640) (Int32.toNatClampNeg ((20 * (nI k)) + 4))))) + ((it_X7_moves_2 w ring p0 p1 640) (Int32.toNatClampNeg ((20 * (nI k)) + 3))))) + ((it_X7_moves_2 w ring p0 p1 640) (Int32.toNatClampNeg ((20 * (nI k)) + 2))))) + ((it_X7_moves_2 w ring p0 p1 640) (Int32.toNatClampNeg ((20 * (nI k)) + 1))))) + ((it_X7_moves_2 w ring p0 p1 640) (Int32.toNatClampNeg ((20 * (nI k)) + 0))))))), (m18, .inl (G.2.1.1, 640, .inl (it_X7_moves_2 w ring p0 p1 640)))] := hD
                                                        refine lv_iinc (v := (nI (k + 1))) (lv' := [(3, .int (nI (k + 1))), (5, .int (-1)), (4, .int ((2 * ((2 * ((2 * ((2 * ((2 * ((2 * ((2 * ((2 * ((2 * ((2 * ((2 * ((2 * ((2 * ((2 * ((2 * ((2 * ((2 * ((2 * ((2 * ((2 * 0) + ((it_X7_moves_2 w ring p0 p1 640) (Int32.toNatClampNeg ((20 * (nI k)) + 19))))) + ((it_X7_moves_2 w ring p0 p1 640) (Int32.toNatClampNeg ((20 * (nI k)) + 18))))) + ((it_X7_moves_2 w ring p0 p1 640) (Int32.toNatClampNeg ((20 * (nI k)) + 17))))) + ((it_X7_moves_2 w ring p0 p1 640) (Int32.toNatClampNeg ((20 * (nI k)) + 16))))) + ((it_X7_moves_2 w ring p0 p1 640) (Int32.toNatClampNeg ((20 * (nI k)) + 15))))) + ((it_X7_moves_2 w ring p0 p1 640) (Int32.toNatClampNeg ((20 * (nI k)) + 14))))) + ((it_X7_moves_2 w ring p0 p1 640) (Int32.toNatClampNeg ((20 * (nI k)) + 13))))) + ((it_X7_moves_2 w ring p0 p1 640) (Int32.toNatClampNeg ((20 * (nI k)) + 12))))) + ((it_X7_moves_2 w ring p0 p1 640) (Int32.toNatClampNeg ((20 * (nI k)) + 11))))) + ((it_X7_moves_2 w ring p0 p1 640) (Int32.toNatClampNeg ((20 * (nI k)) + 10))))) + ((it_X7_moves_2 w ring p0 p1 640) (Int32.toNatClampNeg ((20 * (nI k)) + 9))))) + ((it_X7_moves_2 w ring p0 p1 640) (Int32.toNatClampNeg ((20 * (nI k)) + 8))))) + ((it_X7_moves_2 w ring p0 p1 640) (Int32.toNatClampNeg ((20 * (nI k)) + 7))))) + ((it_X7_moves_2 w ring p0 p1 640) (Int32.toNatClampNeg ((20 * (nI k)) + 6))))) + ((it_X7_moves_2 w ring p0 p1 640) (Int32.toNatClampNeg ((20 * (nI k)) + 5))))) + ((it_X7_moves_2 w ring p0 p1 640) (Int32.toNatClampNeg ((20 * (nI k)) + 4))))) + ((it_X7_moves_2 w ring p0 p1 640) (Int32.toNatClampNeg ((20 * (nI k)) + 3))))) + ((it_X7_moves_2 w ring p0 p1 640) (Int32.toNatClampNeg ((20 * (nI k)) + 2))))) + ((it_X7_moves_2 w ring p0 p1 640) (Int32.toNatClampNeg ((20 * (nI k)) + 1))))) + ((it_X7_moves_2 w ring p0 p1 640) (Int32.toNatClampNeg ((20 * (nI k)) + 0))))), (0, .ref m0), (1, .int p0), (2, .int p1)]) hx hb dX7_moves_132 hl (k := 2) rfl (nI_1 k) (by decide) rfl (fun ls hl => ?_)
                                                        refine lv_goto (tgt := 72) hx hb dX7_moves_135 (by decide) ?_
                                                        have ek : (it_X7_moves_72 w ring p0 p1 (k + 1)) = (upd (it_X7_moves_72 w ring p0 p1 k) (Int32.toNatClampNeg ((414 + (32 * p0)) + (nI k))) ((2 * ((2 * ((2 * ((2 * ((2 * ((2 * ((2 * ((2 * ((2 * ((2 * ((2 * ((2 * ((2 * ((2 * ((2 * ((2 * ((2 * ((2 * ((2 * ((2 * 0) + ((it_X7_moves_2 w ring p0 p1 640) (Int32.toNatClampNeg ((20 * (nI k)) + 19))))) + ((it_X7_moves_2 w ring p0 p1 640) (Int32.toNatClampNeg ((20 * (nI k)) + 18))))) + ((it_X7_moves_2 w ring p0 p1 640) (Int32.toNatClampNeg ((20 * (nI k)) + 17))))) + ((it_X7_moves_2 w ring p0 p1 640) (Int32.toNatClampNeg ((20 * (nI k)) + 16))))) + ((it_X7_moves_2 w ring p0 p1 640) (Int32.toNatClampNeg ((20 * (nI k)) + 15))))) + ((it_X7_moves_2 w ring p0 p1 640) (Int32.toNatClampNeg ((20 * (nI k)) + 14))))) + ((it_X7_moves_2 w ring p0 p1 640) (Int32.toNatClampNeg ((20 * (nI k)) + 13))))) + ((it_X7_moves_2 w ring p0 p1 640) (Int32.toNatClampNeg ((20 * (nI k)) + 12))))) + ((it_X7_moves_2 w ring p0 p1 640) (Int32.toNatClampNeg ((20 * (nI k)) + 11))))) + ((it_X7_moves_2 w ring p0 p1 640) (Int32.toNatClampNeg ((20 * (nI k)) + 10))))) + ((it_X7_moves_2 w ring p0 p1 640) (Int32.toNatClampNeg ((20 * (nI k)) + 9))))) + ((it_X7_moves_2 w ring p0 p1 640) (Int32.toNatClampNeg ((20 * (nI k)) + 8))))) + ((it_X7_moves_2 w ring p0 p1 640) (Int32.toNatClampNeg ((20 * (nI k)) + 7))))) + ((it_X7_moves_2 w ring p0 p1 640) (Int32.toNatClampNeg ((20 * (nI k)) + 6))))) + ((it_X7_moves_2 w ring p0 p1 640) (Int32.toNatClampNeg ((20 * (nI k)) + 5))))) + ((it_X7_moves_2 w ring p0 p1 640) (Int32.toNatClampNeg ((20 * (nI k)) + 4))))) + ((it_X7_moves_2 w ring p0 p1 640) (Int32.toNatClampNeg ((20 * (nI k)) + 3))))) + ((it_X7_moves_2 w ring p0 p1 640) (Int32.toNatClampNeg ((20 * (nI k)) + 2))))) + ((it_X7_moves_2 w ring p0 p1 640) (Int32.toNatClampNeg ((20 * (nI k)) + 1))))) + ((it_X7_moves_2 w ring p0 p1 640) (Int32.toNatClampNeg ((20 * (nI k)) + 0))))) := rfl
                                                        exact ih (k + 1) (by omega) _ _ (by rw [ek]; exact hP) (by rw [ek]; exact hD) hS ls (lv_sub hl [0, 3, 4, 5] rfl)
                                                      · exact absurd c_24 (by decide)
        exact loop_72 32 0 (by omega) _ _ hP hD hS ls (lv_sub hl [0, 1, 2, 3] rfl)
      · exact absurd (Int32.le_refl _) c_1
    | succ fu ih =>
      intro k hk H locs hP hD hS ls hl
      have hlt_k : k < 640 := by omega
      refine lv_iload_n hx hb dX7_moves_2 rfl (lv_at hl 0 rfl) ?_
      refine lv_sipush (v := 640) hx hb dX7_moves_3 (by decide) ?_
      refine lv_icmp_ge (tgt := 70) hx hb dX7_moves_6 (by decide) (fun c_25 => ?_) (fun c_25 => ?_)
      · exact absurd c_25 (nI_ge hlt_k (by decide))
      · skip
        refine lv_iload_n hx hb dX7_moves_9 rfl (lv_at hl 0 rfl) ?_
        refine lv_iload_n hx hb dX7_moves_10 rfl (lv_at hl 3 rfl) ?_
        refine lv_iadd hx hb dX7_moves_11 ?_
        refine lv_sipush (v := 640) hx hb dX7_moves_12 (by decide) ?_
        refine gIrem hx hb dX7_moves_15 (by decide) ?_
        refine lv_istore (lv' := [(4, .int (((nI k) + p1) % 640)), (3, .int (nI k)), (0, .ref m0), (1, .int p0), (2, .int p1)]) hx hb dX7_moves_16 hl (by decide) rfl (fun ls hl => ?_)
        refine lv_aload_n hx hb dX7_moves_18 rfl (lv_at hl 2 rfl) ?_
        refine va_get (D := G.1) (ci := 10) (v := .ref m18) (C := RX7) (T := TX7) (N := 21) hx hb hts in_X7 hown hK hP 0 rfl rfl 18 (by decide) (hts _ k_fl_X7_69) (fun _ h9 => h9) rfl dX7_moves_19 ?_
        refine lv_iload hx hb dX7_moves_22 (lv_at hl 0 rfl) ?_
        refine lv_if_ge (tgt := 36) hx hb dX7_moves_24 (by decide) (fun c_26 => ?_) (fun c_26 => ?_)
        · skip
          refine lv_iload hx hb dX7_moves_36 (lv_at hl 0 rfl) ?_
          refine lv_aload_n hx hb dX7_moves_38 rfl (lv_at hl 2 rfl) ?_
          refine va_get (D := G.1) (ci := 10) (v := .ref m1) (C := RX7) (T := TX7) (N := 21) hx hb hts in_X7 hown hK hP 0 rfl rfl 1 (by decide) (hts _ k_fl_X7_7) (fun _ h9 => h9) rfl dX7_moves_39 ?_
          refine lv_sipush (v := 414) hx hb dX7_moves_42 (by decide) ?_
          refine lv_bipush (v := 32) hx hb dX7_moves_45 (by decide) ?_
          refine lv_iload_n hx hb dX7_moves_47 rfl (lv_at hl 3 rfl) ?_
          refine lv_imul hx hb dX7_moves_48 ?_
          refine lv_iadd hx hb dX7_moves_49 ?_
          refine lv_iload_n hx hb dX7_moves_50 rfl (lv_at hl 1 rfl) ?_
          refine lv_bipush (v := 20) hx hb dX7_moves_51 (by decide) ?_
          refine lv_idiv hx hb dX7_moves_53 (by decide) ?_
          refine lv_iadd hx hb dX7_moves_54 ?_
          refine va_iald hx hb hK hP 1 0 rfl rfl (by have z0 : (0 : Int32).toInt = 0 := (by decide); have z1 := nI_toInt (n := k) (by omega); (try have z3 := gI_add (x := (nI k)) (y := p1) (by omega) (by omega)); (try have z4 := gI_modL (x := ((nI k) + p1)) (y := 640) (d := 640) (by omega) (by decide)); have z4b := gI_modB (x := ((nI k) + p1)) (y := 640) (d := 640) (by decide) (by decide); have qc_26 := c_26; (try rw [gI_le] at qc_26); have z5 : (414 : Int32).toInt = 414 := (by decide); have z6 : (32 : Int32).toInt = 32 := (by decide); (try have z8 := gI_mul (x := 32) (y := p0) (by (try rw [z6]); (try rw [z7]); omega) (by (try rw [z6]); (try rw [z7]); omega)); (try rw [z6, z7] at z8); (try rw [z6] at z8); (try rw [z7] at z8); (try have z9 := gI_add (x := 414) (y := (32 * p0)) (by omega) (by omega)); (try have z10 := gI_divL (x := (nI k)) (y := 20) (d := 20) (by omega) (by decide) (by decide)); (try have z11 := gI_add (x := (414 + (32 * p0))) (y := ((nI k) / 20)) (by omega) (by omega)); (try rw [vp_in_iff]); omega) dX7_moves_55 ?_
          refine lv_iload_n hx hb dX7_moves_56 rfl (lv_at hl 1 rfl) ?_
          refine lv_bipush (v := 20) hx hb dX7_moves_57 (by decide) ?_
          refine gIrem hx hb dX7_moves_59 (by decide) ?_
          refine lv_ishr hx hb dX7_moves_60 ?_
          refine lv_iconst (v := 1) hx hb dX7_moves_61 (by decide) ?_
          refine lv_iand hx hb dX7_moves_62 ?_
          refine va_iast hx hb hK hP hD hS 2 0 rfl rfl (by have z0 : (0 : Int32).toInt = 0 := (by decide); have z1 := nI_toInt (n := k) (by omega); (try have z3 := gI_add (x := (nI k)) (y := p1) (by omega) (by omega)); (try have z4 := gI_modL (x := ((nI k) + p1)) (y := 640) (d := 640) (by omega) (by decide)); have z4b := gI_modB (x := ((nI k) + p1)) (y := 640) (d := 640) (by decide) (by decide); have qc_26 := c_26; (try rw [gI_le] at qc_26); (try rw [vp_in_iff]); omega) dX7_moves_63 (fun H locs hP hD hS => ?_)
          replace hP : va_P G.1 vwCl [(m0, .inr (10, [.int rz, .ref m1, .ref m2, .ref m3, .int hf, .int hs, .ref m6, .int len, .int ec, .int ep, .int pos, .int bg, .int bad, .ref m13, .ref m14, .int plc, .int sta, .ref m17, .ref m18, .ref m19, .int shm])), (m1, .inl (G.2.1.1, 670, .inl w)), (m18, .inl (G.2.1.1, 640, .inl (upd (it_X7_moves_2 w ring p0 p1 k) (Int32.toNatClampNeg (((nI k) + p1) % 640)) ((((w (Int32.toNatClampNeg ((414 + (32 * p0)) + ((nI k) / 20)))) >>> (((nI k) % 20) &&& 31)) : Int32) &&& 1))))] H := hP
          replace hD : va_D A [(m0, .inr (10, [.int rz, .ref m1, .ref m2, .ref m3, .int hf, .int hs, .ref m6, .int len, .int ec, .int ep, .int pos, .int bg, .int bad, .ref m13, .ref m14, .int plc, .int sta, .ref m17, .ref m18, .ref m19, .int shm])), (m1, .inl (G.2.1.1, 670, .inl w)), (m18, .inl (G.2.1.1, 640, .inl (upd (it_X7_moves_2 w ring p0 p1 k) (Int32.toNatClampNeg (((nI k) + p1) % 640)) ((((w (Int32.toNatClampNeg ((414 + (32 * p0)) + ((nI k) / 20)))) >>> (((nI k) % 20) &&& 31)) : Int32) &&& 1))))] := hD
          refine lv_iinc (v := (nI (k + 1))) (lv' := [(3, .int (nI (k + 1))), (4, .int (((nI k) + p1) % 640)), (0, .ref m0), (1, .int p0), (2, .int p1)]) hx hb dX7_moves_64 hl (k := 1) rfl (nI_1 k) (by decide) rfl (fun ls hl => ?_)
          refine lv_goto (tgt := 2) hx hb dX7_moves_67 (by decide) ?_
          have ek : (it_X7_moves_2 w ring p0 p1 (k + 1)) = (upd (it_X7_moves_2 w ring p0 p1 k) (Int32.toNatClampNeg (((nI k) + p1) % 640)) ((((w (Int32.toNatClampNeg ((414 + (32 * p0)) + ((nI k) / 20)))) >>> (((nI k) % 20) &&& 31)) : Int32) &&& 1)) := (if_pos c_26)
          exact ih (k + 1) (by omega) _ _ (by rw [ek]; exact hP) (by rw [ek]; exact hD) hS ls (lv_sub hl [0, 2, 3, 4] rfl)
        · skip
          refine lv_iload hx hb dX7_moves_27 (lv_at hl 0 rfl) ?_
          refine lv_sipush (v := 640) hx hb dX7_moves_29 (by decide) ?_
          refine lv_iadd hx hb dX7_moves_32 ?_
          refine lv_goto (tgt := 38) hx hb dX7_moves_33 (by decide) ?_
          refine lv_aload_n hx hb dX7_moves_38 rfl (lv_at hl 2 rfl) ?_
          refine va_get (D := G.1) (ci := 10) (v := .ref m1) (C := RX7) (T := TX7) (N := 21) hx hb hts in_X7 hown hK hP 0 rfl rfl 1 (by decide) (hts _ k_fl_X7_7) (fun _ h9 => h9) rfl dX7_moves_39 ?_
          refine lv_sipush (v := 414) hx hb dX7_moves_42 (by decide) ?_
          refine lv_bipush (v := 32) hx hb dX7_moves_45 (by decide) ?_
          refine lv_iload_n hx hb dX7_moves_47 rfl (lv_at hl 3 rfl) ?_
          refine lv_imul hx hb dX7_moves_48 ?_
          refine lv_iadd hx hb dX7_moves_49 ?_
          refine lv_iload_n hx hb dX7_moves_50 rfl (lv_at hl 1 rfl) ?_
          refine lv_bipush (v := 20) hx hb dX7_moves_51 (by decide) ?_
          refine lv_idiv hx hb dX7_moves_53 (by decide) ?_
          refine lv_iadd hx hb dX7_moves_54 ?_
          refine va_iald hx hb hK hP 1 0 rfl rfl (by have z0 : (0 : Int32).toInt = 0 := (by decide); have z1 := nI_toInt (n := k) (by omega); (try have z3 := gI_add (x := (nI k)) (y := p1) (by omega) (by omega)); (try have z4 := gI_modL (x := ((nI k) + p1)) (y := 640) (d := 640) (by omega) (by decide)); have z4b := gI_modB (x := ((nI k) + p1)) (y := 640) (d := 640) (by decide) (by decide); have qc_26 := c_26; (try rw [gI_le] at qc_26); have z5 : (414 : Int32).toInt = 414 := (by decide); have z6 : (32 : Int32).toInt = 32 := (by decide); (try have z8 := gI_mul (x := 32) (y := p0) (by (try rw [z6]); (try rw [z7]); omega) (by (try rw [z6]); (try rw [z7]); omega)); (try rw [z6, z7] at z8); (try rw [z6] at z8); (try rw [z7] at z8); (try have z9 := gI_add (x := 414) (y := (32 * p0)) (by omega) (by omega)); (try have z10 := gI_divL (x := (nI k)) (y := 20) (d := 20) (by omega) (by decide) (by decide)); (try have z11 := gI_add (x := (414 + (32 * p0))) (y := ((nI k) / 20)) (by omega) (by omega)); (try rw [vp_in_iff]); omega) dX7_moves_55 ?_
          refine lv_iload_n hx hb dX7_moves_56 rfl (lv_at hl 1 rfl) ?_
          refine lv_bipush (v := 20) hx hb dX7_moves_57 (by decide) ?_
          refine gIrem hx hb dX7_moves_59 (by decide) ?_
          refine lv_ishr hx hb dX7_moves_60 ?_
          refine lv_iconst (v := 1) hx hb dX7_moves_61 (by decide) ?_
          refine lv_iand hx hb dX7_moves_62 ?_
          refine va_iast hx hb hK hP hD hS 2 0 rfl rfl (by have z0 : (0 : Int32).toInt = 0 := (by decide); have z1 := nI_toInt (n := k) (by omega); (try have z3 := gI_add (x := (nI k)) (y := p1) (by omega) (by omega)); (try have z4 := gI_modL (x := ((nI k) + p1)) (y := 640) (d := 640) (by omega) (by decide)); have z4b := gI_modB (x := ((nI k) + p1)) (y := 640) (d := 640) (by decide) (by decide); have qc_26 := c_26; (try rw [gI_le] at qc_26); have z5 : (640 : Int32).toInt = 640 := (by decide); (try have z6 := gI_add (x := (((nI k) + p1) % 640)) (y := 640) (by omega) (by omega)); (try rw [vp_in_iff]); omega) dX7_moves_63 (fun H locs hP hD hS => ?_)
          replace hP : va_P G.1 vwCl [(m0, .inr (10, [.int rz, .ref m1, .ref m2, .ref m3, .int hf, .int hs, .ref m6, .int len, .int ec, .int ep, .int pos, .int bg, .int bad, .ref m13, .ref m14, .int plc, .int sta, .ref m17, .ref m18, .ref m19, .int shm])), (m1, .inl (G.2.1.1, 670, .inl w)), (m18, .inl (G.2.1.1, 640, .inl (upd (it_X7_moves_2 w ring p0 p1 k) (Int32.toNatClampNeg ((((nI k) + p1) % 640) + 640)) ((((w (Int32.toNatClampNeg ((414 + (32 * p0)) + ((nI k) / 20)))) >>> (((nI k) % 20) &&& 31)) : Int32) &&& 1))))] H := hP
          replace hD : va_D A [(m0, .inr (10, [.int rz, .ref m1, .ref m2, .ref m3, .int hf, .int hs, .ref m6, .int len, .int ec, .int ep, .int pos, .int bg, .int bad, .ref m13, .ref m14, .int plc, .int sta, .ref m17, .ref m18, .ref m19, .int shm])), (m1, .inl (G.2.1.1, 670, .inl w)), (m18, .inl (G.2.1.1, 640, .inl (upd (it_X7_moves_2 w ring p0 p1 k) (Int32.toNatClampNeg ((((nI k) + p1) % 640) + 640)) ((((w (Int32.toNatClampNeg ((414 + (32 * p0)) + ((nI k) / 20)))) >>> (((nI k) % 20) &&& 31)) : Int32) &&& 1))))] := hD
          refine lv_iinc (v := (nI (k + 1))) (lv' := [(3, .int (nI (k + 1))), (4, .int (((nI k) + p1) % 640)), (0, .ref m0), (1, .int p0), (2, .int p1)]) hx hb dX7_moves_64 hl (k := 1) rfl (nI_1 k) (by decide) rfl (fun ls hl => ?_)
          refine lv_goto (tgt := 2) hx hb dX7_moves_67 (by decide) ?_
          have ek : (it_X7_moves_2 w ring p0 p1 (k + 1)) = (upd (it_X7_moves_2 w ring p0 p1 k) (Int32.toNatClampNeg ((((nI k) + p1) % 640) + 640)) ((((w (Int32.toNatClampNeg ((414 + (32 * p0)) + ((nI k) / 20)))) >>> (((nI k) % 20) &&& 31)) : Int32) &&& 1)) := (if_neg c_26)
          exact ih (k + 1) (by omega) _ _ (by rw [ek]; exact hP) (by rw [ek]; exact hD) hS ls (lv_sub hl [0, 2, 3, 4] rfl)
  exact loop_2 640 0 (by omega) _ _ hP hD hS ls (lv_sub hl [0, 1, 2, 3] rfl)
theorem okV_X7_moves : gOkV yX7_moves cX7_moves 6 none 2 := ⟨⟨k_im_X7_moves, k_se_X7_moves, k_in_X7, k_cd_X7_moves⟩, by decide, by decide, by decide +kernel⟩
