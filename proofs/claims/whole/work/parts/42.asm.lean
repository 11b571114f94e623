def f_X0_isBlank (p0 : Int32) : Int32 :=
  if p0 = 10 then
    1
  else
    if p0 = 32 then
      1
    else
      0
set_option maxRecDepth 100000 in
set_option maxHeartbeats 4000000 in
theorem c_X0_isBlank (l : Launch) (G : gG) (p0 : Int32) : gM l G yX0_isBlank cX0_isBlank 1 (some .boolean) { frames := 0, cells := 0, slots := 0, locals := 0 } [.int p0] [] (some (.int (f_X0_isBlank p0))) [] 0 0 := by
  refine gBegin (by decide +kernel) (Nat.le_of_ble_eq_true rfl) (fun p e s m args below meth c A F hr hlocks hname hN hK hP hD hA hS ls hl => ?_)
  obtain ⟨hx, hb, hml, hown, hts⟩ := id F
  replace hP : va_P G.1 vwCl [] s.heap := hP
  replace hl : lv_has ls 1 [(0, .int p0)] := hl
  refine lv_iload_n hx hb dX0_isBlank_0 rfl (lv_at hl 0 rfl) ?_
  refine lv_bipush (v := 10) hx hb dX0_isBlank_1 (by decide) ?_
  refine lv_icmp_eq (tgt := 12) hx hb dX0_isBlank_3 (by decide) (fun c_1 => ?_) (fun c_1 => ?_)
  · skip
    refine lv_iconst (v := 1) hx hb dX0_isBlank_12 (by decide) ?_
    refine lv_goto (tgt := 17) hx hb dX0_isBlank_13 (by decide) ?_
    have ef : (f_X0_isBlank p0) = 1 := (if_pos c_1)
    exact gRetZ F hr hlocks hK hP hD hS rfl (by rw [ef]) rfl (Nat.le_of_ble_eq_true rfl) (Nat.le_of_ble_eq_true rfl) dX0_isBlank_17
  · skip
    refine lv_iload_n hx hb dX0_isBlank_6 rfl (lv_at hl 0 rfl) ?_
    refine lv_bipush (v := 32) hx hb dX0_isBlank_7 (by decide) ?_
    refine lv_icmp_ne (tgt := 16) hx hb dX0_isBlank_9 (by decide) (fun c_2 => ?_) (fun c_2 => ?_)
    · skip
      refine lv_iconst (v := 0) hx hb dX0_isBlank_16 (by decide) ?_
      have ef : (f_X0_isBlank p0) = 0 := ((if_neg c_1).trans (if_neg c_2))
      exact gRetZ F hr hlocks hK hP hD hS rfl (by rw [ef]) rfl (Nat.le_of_ble_eq_true rfl) (Nat.le_of_ble_eq_true rfl) dX0_isBlank_17
    · skip
      refine lv_iconst (v := 1) hx hb dX0_isBlank_12 (by decide) ?_
      refine lv_goto (tgt := 17) hx hb dX0_isBlank_13 (by decide) ?_
      have ef : (f_X0_isBlank p0) = 1 := ((if_neg c_1).trans (if_pos c_2))
      exact gRetZ F hr hlocks hK hP hD hS rfl (by rw [ef]) rfl (Nat.le_of_ble_eq_true rfl) (Nat.le_of_ble_eq_true rfl) dX0_isBlank_17
theorem okS_X0_isBlank : gOkS yX0_isBlank cX0_isBlank 1 (some .boolean) 1 := ⟨⟨k_st_X0_isBlank, k_in_X0, k_cd_X0_isBlank⟩, by decide, by decide, by decide +kernel⟩
def f_X0_isLetter (p0 : Int32) : Int32 :=
  if p0 < 97 then
    0
  else
    if 122 < p0 then
      0
    else
      1
set_option maxRecDepth 100000 in
set_option maxHeartbeats 4000000 in
theorem c_X0_isLetter (l : Launch) (G : gG) (p0 : Int32) : gM l G yX0_isLetter cX0_isLetter 1 (some .boolean) { frames := 0, cells := 0, slots := 0, locals := 0 } [.int p0] [] (some (.int (f_X0_isLetter p0))) [] 0 0 := by
  refine gBegin (by decide +kernel) (Nat.le_of_ble_eq_true rfl) (fun p e s m args below meth c A F hr hlocks hname hN hK hP hD hA hS ls hl => ?_)
  obtain ⟨hx, hb, hml, hown, hts⟩ := id F
  replace hP : va_P G.1 vwCl [] s.heap := hP
  replace hl : lv_has ls 1 [(0, .int p0)] := hl
  refine lv_iload_n hx hb dX0_isLetter_0 rfl (lv_at hl 0 rfl) ?_
  refine lv_bipush (v := 97) hx hb dX0_isLetter_1 (by decide) ?_
  refine lv_icmp_lt (tgt := 16) hx hb dX0_isLetter_3 (by decide) (fun c_1 => ?_) (fun c_1 => ?_)
  · skip
    refine lv_iconst (v := 0) hx hb dX0_isLetter_16 (by decide) ?_
    have ef : (f_X0_isLetter p0) = 0 := (if_pos c_1)
    exact gRetZ F hr hlocks hK hP hD hS rfl (by rw [ef]) rfl (Nat.le_of_ble_eq_true rfl) (Nat.le_of_ble_eq_true rfl) dX0_isLetter_17
  · skip
    refine lv_iload_n hx hb dX0_isLetter_6 rfl (lv_at hl 0 rfl) ?_
    refine lv_bipush (v := 122) hx hb dX0_isLetter_7 (by decide) ?_
    refine lv_icmp_gt (tgt := 16) hx hb dX0_isLetter_9 (by decide) (fun c_2 => ?_) (fun c_2 => ?_)
    · skip
      refine lv_iconst (v := 0) hx hb dX0_isLetter_16 (by decide) ?_
      have ef : (f_X0_isLetter p0) = 0 := ((if_neg c_1).trans (if_pos c_2))
      exact gRetZ F hr hlocks hK hP hD hS rfl (by rw [ef]) rfl (Nat.le_of_ble_eq_true rfl) (Nat.le_of_ble_eq_true rfl) dX0_isLetter_17
    · skip
      refine lv_iconst (v := 1) hx hb dX0_isLetter_12 (by decide) ?_
      refine lv_goto (tgt := 17) hx hb dX0_isLetter_13 (by decide) ?_
      have ef : (f_X0_isLetter p0) = 1 := ((if_neg c_1).trans (if_neg c_2))
      exact gRetZ F hr hlocks hK hP hD hS rfl (by rw [ef]) rfl (Nat.le_of_ble_eq_true rfl) (Nat.le_of_ble_eq_true rfl) dX0_isLetter_17
theorem okS_X0_isLetter : gOkS yX0_isLetter cX0_isLetter 1 (some .boolean) 1 := ⟨⟨k_st_X0_isLetter, k_in_X0, k_cd_X0_isLetter⟩, by decide, by decide, by decide +kernel⟩
def f_X0_isDigit (p0 : Int32) : Int32 :=
  if p0 < 48 then
    0
  else
    if 57 < p0 then
      0
    else
      1
set_option maxRecDepth 100000 in
set_option maxHeartbeats 4000000 in
theorem c_X0_isDigit (l : Launch) (G : gG) (p0 : Int32) : gM l G yX0_isDigit cX0_isDigit 1 (some .boolean) { frames := 0, cells := 0, slots := 0, locals := 0 } [.int p0] [] (some (.int (f_X0_isDigit p0))) [] 0 0 := by
  refine gBegin (by decide +kernel) (Nat.le_of_ble_eq_true rfl) (fun p e s m args below meth c A F hr hlocks hname hN hK hP hD hA hS ls hl => ?_)
  obtain ⟨hx, hb, hml, hown, hts⟩ := id F
  replace hP : va_P G.1 vwCl [] s.heap := hP
  replace hl : lv_has ls 1 [(0, .int p0)] := hl
  refine lv_iload_n hx hb dX0_isDigit_0 rfl (lv_at hl 0 rfl) ?_
  refine lv_bipush (v := 48) hx hb dX0_isDigit_1 (by decide) ?_
  refine lv_icmp_lt (tgt := 16) hx hb dX0_isDigit_3 (by decide) (fun c_1 => ?_) (fun c_1 => ?_)
  · skip
    refine lv_iconst (v := 0) hx hb dX0_isDigit_16 (by decide) ?_
    have ef : (f_X0_isDigit p0) = 0 := (if_pos c_1)
    exact gRetZ F hr hlocks hK hP hD hS rfl (by rw [ef]) rfl (Nat.le_of_ble_eq_true rfl) (Nat.le_of_ble_eq_true rfl) dX0_isDigit_17
  · skip
    refine lv_iload_n hx hb dX0_isDigit_6 rfl (lv_at hl 0 rfl) ?_
    refine lv_bipush (v := 57) hx hb dX0_isDigit_7 (by decide) ?_
    refine lv_icmp_gt (tgt := 16) hx hb dX0_isDigit_9 (by decide) (fun c_2 => ?_) (fun c_2 => ?_)
    · skip
      refine lv_iconst (v := 0) hx hb dX0_isDigit_16 (by decide) ?_
      have ef : (f_X0_isDigit p0) = 0 := ((if_neg c_1).trans (if_pos c_2))
      exact gRetZ F hr hlocks hK hP hD hS rfl (by rw [ef]) rfl (Nat.le_of_ble_eq_true rfl) (Nat.le_of_ble_eq_true rfl) dX0_isDigit_17
    · skip
      refine lv_iconst (v := 1) hx hb dX0_isDigit_12 (by decide) ?_
      refine lv_goto (tgt := 17) hx hb dX0_isDigit_13 (by decide) ?_
      have ef : (f_X0_isDigit p0) = 1 := ((if_neg c_1).trans (if_neg c_2))
      exact gRetZ F hr hlocks hK hP hD hS rfl (by rw [ef]) rfl (Nat.le_of_ble_eq_true rfl) (Nat.le_of_ble_eq_true rfl) dX0_isDigit_17
theorem okS_X0_isDigit : gOkS yX0_isDigit cX0_isDigit 1 (some .boolean) 1 := ⟨⟨k_st_X0_isDigit, k_in_X0, k_cd_X0_isDigit⟩, by decide, by decide, by decide +kernel⟩
def f_X0_byteAt (len : Int32) (text : Nat → Int32) (p0 : Int32) : Int32 :=
  if p0 < 0 then
    (-1)
  else
    if len ≤ p0 then
      (-1)
    else
      if 600 ≤ p0 then
        (-1)
      else
        (text (Int32.toNatClampNeg p0))
set_option maxRecDepth 100000 in
set_option maxHeartbeats 4000000 in
theorem c_X0_byteAt (l : Launch) (G : gG) (a0 : Nat) (a1 : Nat) (a2 : Nat) (a3 : Nat) (len : Int32) (ec : Int32) (ep : Int32) (wc : Int32) (sl : Int32) (pl : Int32) (ki : Int32) (ts : Int32) (te : Int32) (nu : Int32) (text : Nat → Int32) (p0 : Int32) : gM l G yX0_byteAt cX0_byteAt 2 (some .int) { frames := 0, cells := 0, slots := 0, locals := 0 } [.ref a0, .int p0] [(a0, .inr (4, [.ref a1, .int len, .int ec, .int ep, .ref a2, .ref a3, .int wc, .int sl, .int pl, .int ki, .int ts, .int te, .int nu])), (a1, .inl (G.2.1.1, 600, .inl text))] (some (.int (f_X0_byteAt len text p0))) [(a0, .inr (4, [.ref a1, .int len, .int ec, .int ep, .ref a2, .ref a3, .int wc, .int sl, .int pl, .int ki, .int ts, .int te, .int nu])), (a1, .inl (G.2.1.1, 600, .inl text))] 0 0 := by
  refine gBegin (by decide +kernel) (Nat.le_of_ble_eq_true rfl) (fun p e s m args below meth c A F hr hlocks hname hN hK hP hD hA hS ls hl => ?_)
  obtain ⟨hx, hb, hml, hown, hts⟩ := id F
  replace hP : va_P G.1 vwCl [(a0, .inr (4, [.ref a1, .int len, .int ec, .int ep, .ref a2, .ref a3, .int wc, .int sl, .int pl, .int ki, .int ts, .int te, .int nu])), (a1, .inl (G.2.1.1, 600, .inl text))] s.heap := hP
  replace hl : lv_has ls 2 [(0, .ref a0), (1, .int p0)] := hl
  refine lv_iload_n hx hb dX0_byteAt_0 rfl (lv_at hl 1 rfl) ?_
  refine lv_if_lt (tgt := 30) hx hb dX0_byteAt_1 (by decide) (fun c_1 => ?_) (fun c_1 => ?_)
  · skip
    refine lv_iconst (v := (-1)) hx hb dX0_byteAt_30 (by decide) ?_
    have ef : (f_X0_byteAt len text p0) = (-1) := (if_pos c_1)
    exact gRetI F hr hlocks hK hP hD hS (by rw [ef]) rfl (Nat.le_of_ble_eq_true rfl) (Nat.le_of_ble_eq_true rfl) dX0_byteAt_31
  · skip
    refine lv_iload_n hx hb dX0_byteAt_4 rfl (lv_at hl 1 rfl) ?_
    refine lv_aload_n hx hb dX0_byteAt_5 rfl (lv_at hl 0 rfl) ?_
    refine va_get (D := G.1) (ci := 4) (v := .int len) (C := RX0) (T := TX0) (N := 13) hx hb hts in_X0 hown hK hP 0 rfl rfl 1 (by decide) (hts _ k_fl_X0_29) (fun _ h9 => h9) rfl dX0_byteAt_6 ?_
    refine lv_icmp_ge (tgt := 30) hx hb dX0_byteAt_9 (by decide) (fun c_2 => ?_) (fun c_2 => ?_)
    · skip
      refine lv_iconst (v := (-1)) hx hb dX0_byteAt_30 (by decide) ?_
      have ef : (f_X0_byteAt len text p0) = (-1) := ((if_neg c_1).trans (if_pos c_2))
      exact gRetI F hr hlocks hK hP hD hS (by rw [ef]) rfl (Nat.le_of_ble_eq_true rfl) (Nat.le_of_ble_eq_true rfl) dX0_byteAt_31
    · skip
      refine lv_iload_n hx hb dX0_byteAt_12 rfl (lv_at hl 1 rfl) ?_
      refine lv_aload_n hx hb dX0_byteAt_13 rfl (lv_at hl 0 rfl) ?_
      refine va_get (D := G.1) (ci := 4) (v := .ref a1) (C := RX0) (T := TX0) (N := 13) hx hb hts in_X0 hown hK hP 0 rfl rfl 0 (by decide) (hts _ k_fl_X0_9) (fun _ h9 => h9) rfl dX0_byteAt_14 ?_
      refine va_alen (v := 600) hx hb hK hP 1 0 rfl rfl rfl dX0_byteAt_17 ?_
      refine lv_icmp_ge (tgt := 30) hx hb dX0_byteAt_18 (by decide) (fun c_3 => ?_) (fun c_3 => ?_)
      · skip
        refine lv_iconst (v := (-1)) hx hb dX0_byteAt_30 (by decide) ?_
        have ef : (f_X0_byteAt len text p0) = (-1) := ((if_neg c_1).trans ((if_neg c_2).trans (if_pos c_3)))
        exact gRetI F hr hlocks hK hP hD hS (by rw [ef]) rfl (Nat.le_of_ble_eq_true rfl) (Nat.le_of_ble_eq_true rfl) dX0_byteAt_31
      · skip
        refine lv_aload_n hx hb dX0_byteAt_21 rfl (lv_at hl 0 rfl) ?_
        refine va_get (D := G.1) (ci := 4) (v := .ref a1) (C := RX0) (T := TX0) (N := 13) hx hb hts in_X0 hown hK hP 0 rfl rfl 0 (by decide) (hts _ k_fl_X0_9) (fun _ h9 => h9) rfl dX0_byteAt_22 ?_
        refine lv_iload_n hx hb dX0_byteAt_25 rfl (lv_at hl 1 rfl) ?_
        refine va_iald hx hb hK hP 1 0 rfl rfl (by have z1 : (0 : Int32).toInt = 0 := (by decide); have qc_1 := c_1; (try rw [gI_lt] at qc_1); have qc_2 := c_2; (try rw [gI_le] at qc_2); have z3 : (600 : Int32).toInt = 600 := (by decide); have qc_3 := c_3; (try rw [gI_le] at qc_3); (try rw [vp_in_iff]); omega) dX0_byteAt_26 ?_
        refine lv_goto (tgt := 31) hx hb dX0_byteAt_27 (by decide) ?_
        have ef : (f_X0_byteAt len text p0) = (text (Int32.toNatClampNeg p0)) := ((if_neg c_1).trans ((if_neg c_2).trans (if_neg c_3)))
        exact gRetI F hr hlocks hK hP hD hS (by rw [ef]) rfl (Nat.le_of_ble_eq_true rfl) (Nat.le_of_ble_eq_true rfl) dX0_byteAt_31
theorem okV_X0_byteAt : gOkV yX0_byteAt cX0_byteAt 2 (some .int) 1 := ⟨⟨k_im_X0_byteAt, k_se_X0_byteAt, k_in_X0, k_cd_X0_byteAt⟩, by decide, by decide, by decide +kernel⟩
theorem sh8_ge : ∀ k : Nat, k < 4 → ¬ ((24 : Int32) - 8 * (nI k) < 0) := by decide
theorem sh8_s (k : Nat) : (24 : Int32) - 8 * (nI k) + (-8) = 24 - 8 * (nI (k + 1)) := by
  have e8 : (8 : Int32) * 1 = 8 := by decide
  rw [← nI_1 k, Int32.mul_add, e8]
  generalize nI k = x
  rw [Int32.sub_eq_add_neg, Int32.sub_eq_add_neg, Int32.neg_add, Int32.add_assoc, ← Int32.sub_eq_add_neg (-(8 * x)) 8]
theorem tok_mu {x n : Int32} {f : Nat} (h : ¬ n ≤ x) (hn : (n.toInt - x.toInt).toNat < f + 1) : (n.toInt - (x + 1).toInt).toNat < f := by
  rw [gI_le] at h
  have r1 := Int32.toInt_lt n
  have r2 := Int32.le_toInt x
  have o1 : (1 : Int32).toInt = 1 := (by decide)
  have e1 := gI_add (x := x) (y := 1) (by omega) (by omega)
  omega
def st_X0_addFourBytes_3 (p0 : Int32) (k : Nat) (v0_ : Nat → Int32) (v1_ : Int32) : (Nat → Int32) × Int32 :=
  if v1_ < 0 then
    (v0_, v1_)
  else
    if 600 ≤ v1_ then
      (v0_, v1_)
    else
      ((upd v0_ (Int32.toNatClampNeg v1_) (((p0 >>> ((24 - 8 * (nI k)) &&& 31)) : Int32) &&& 255)), (v1_ + 1))
def it_X0_addFourBytes_3 (len : Int32) (text : Nat → Int32) (p0 : Int32) : Nat → (Nat → Int32) × Int32
  | 0 => (text, len)
  | i + 1 => st_X0_addFourBytes_3 p0 i (it_X0_addFourBytes_3 len text p0 i).1 (it_X0_addFourBytes_3 len text p0 i).2
def f_X0_addFourBytes (len : Int32) (text : Nat → Int32) (p0 : Int32) : Int32 × (Nat → Int32) :=
  ((it_X0_addFourBytes_3 len text p0 4).2, (it_X0_addFourBytes_3 len text p0 4).1)
set_option maxRecDepth 100000 in
set_option maxHeartbeats 4000000 in
theorem c_X0_addFourBytes (l : Launch) (G : gG) (a0 : Nat) (a1 : Nat) (a2 : Nat) (a3 : Nat) (len : Int32) (ec : Int32) (ep : Int32) (wc : Int32) (sl : Int32) (pl : Int32) (ki : Int32) (ts : Int32) (te : Int32) (nu : Int32) (text : Nat → Int32) (p0 : Int32) : gM l G yX0_addFourBytes cX0_addFourBytes 3 none { frames := 0, cells := 0, slots := 0, locals := 0 } [.ref a0, .int p0] [(a0, .inr (4, [.ref a1, .int len, .int ec, .int ep, .ref a2, .ref a3, .int wc, .int sl, .int pl, .int ki, .int ts, .int te, .int nu])), (a1, .inl (G.2.1.1, 600, .inl text))] none [(a0, .inr (4, [.ref a1, .int ((f_X0_addFourBytes len text p0).1), .int ec, .int ep, .ref a2, .ref a3, .int wc, .int sl, .int pl, .int ki, .int ts, .int te, .int nu])), (a1, .inl (G.2.1.1, 600, .inl ((f_X0_addFourBytes len text p0).2)))] 0 0 := by
  refine gBegin (by decide +kernel) (Nat.le_of_ble_eq_true rfl) (fun p e s m args below meth c A F hr hlocks hname hN hK hP hD hA hS ls hl => ?_)
  obtain ⟨hx, hb, hml, hown, hts⟩ := id F
  replace hP : va_P G.1 vwCl [(a0, .inr (4, [.ref a1, .int len, .int ec, .int ep, .ref a2, .ref a3, .int wc, .int sl, .int pl, .int ki, .int ts, .int te, .int nu])), (a1, .inl (G.2.1.1, 600, .inl text))] s.heap := hP
  replace hl : lv_has ls 3 [(0, .ref a0), (1, .int p0)] := hl
  refine lv_bipush (v := 24) hx hb dX0_addFourBytes_0 (by decide) ?_
  refine lv_istore_n (lv' := [(2, .int 24), (0, .ref a0), (1, .int p0)]) hx hb dX0_addFourBytes_2 rfl hl (by decide) rfl (fun ls hl => ?_)
  have loop_3 : ∀ (fu k : Nat), k + fu = 4 → ∀ (H : Heap) (locs : List Loc), va_P G.1 vwCl [(a0, .inr (4, [.ref a1, .int ((it_X0_addFourBytes_3 len text p0 k).2), .int ec, .int ep, .ref a2, .ref a3, .int wc, .int sl, .int pl, .int ki, .int ts, .int te, .int nu])), (a1, .inl (G.2.1.1, 600, .inl ((it_X0_addFourBytes_3 len text p0 k).1)))] H → va_D A [(a0, .inr (4, [.ref a1, .int ((it_X0_addFourBytes_3 len text p0 k).2), .int ec, .int ep, .ref a2, .ref a3, .int wc, .int sl, .int pl, .int ki, .int ts, .int te, .int nu])), (a1, .inl (G.2.1.1, 600, .inl ((it_X0_addFourBytes_3 len text p0 k).1)))] → va_S A s.heap H locs → ∀ ls : Array Slot, lv_has ls 3 [(2, .int (24 - 8 * (nI k))), (0, .ref a0), (1, .int p0)] → W p l e { frames := 0, cells := 0, slots := 0, locals := 0 } s m args below meth c H locs 0 0 (MQ below (gQ G none [(a0, .inr (4, [.ref a1, .int ((f_X0_addFourBytes len text p0).1), .int ec, .int ep, .ref a2, .ref a3, .int wc, .int sl, .int pl, .int ki, .int ts, .int te, .int nu])), (a1, .inl (G.2.1.1, 600, .inl ((f_X0_addFourBytes len text p0).2)))] A) args s 0 0 A) (F0 m 3 ls []) := by
    intro fu
    induction fu with
    | zero =>
      intro k hk H locs hP hD hS ls hl
      have ek : 4 = k := by omega
      subst ek
      replace hP : va_P G.1 vwCl [(a0, .inr (4, [.ref a1, .int ((it_X0_addFourBytes_3 len text p0 4).2), .int ec, .int ep, .ref a2, .ref a3, .int wc, .int sl, .int pl, .int ki, .int ts, .int te, .int nu])), (a1, .inl (G.2.1.1, 600, .inl ((it_X0_addFourBytes_3 len text p0 4).1)))] H := hP
      replace hD : va_D A [(a0, .inr (4, [.ref a1, .int ((it_X0_addFourBytes_3 len text p0 4).2), .int ec, .int ep, .ref a2, .ref a3, .int wc, .int sl, .int pl, .int ki, .int ts, .int te, .int nu])), (a1, .inl (G.2.1.1, 600, .inl ((it_X0_addFourBytes_3 len text p0 4).1)))] := hD
      replace hl : lv_has ls 3 [(2, .int (24 - 8 * (nI 4))), (0, .ref a0), (1, .int p0)] := hl
      refine lv_iload_n hx hb dX0_addFourBytes_3 rfl (lv_at hl 0 rfl) ?_
      refine lv_if_lt (tgt := 58) hx hb dX0_addFourBytes_4 (by decide) (fun c_1 => ?_) (fun c_1 => ?_)
      · skip
        exact gRetV F hr hlocks hK hP hD hS rfl rfl (Nat.le_of_ble_eq_true rfl) (Nat.le_of_ble_eq_true rfl) dX0_addFourBytes_58
      · exact absurd (by decide : (24 : Int32) - 8 * nI 4 < 0) c_1
    | succ fu ih =>
      intro k hk H locs hP hD hS ls hl
      have hlt_k : k < 4 := by omega
      refine lv_iload_n hx hb dX0_addFourBytes_3 rfl (lv_at hl 0 rfl) ?_
      refine lv_if_lt (tgt := 58) hx hb dX0_addFourBytes_4 (by decide) (fun c_2 => ?_) (fun c_2 => ?_)
      · exact absurd c_2 (sh8_ge k hlt_k)
      · skip
        refine lv_aload_n hx hb dX0_addFourBytes_7 rfl (lv_at hl 1 rfl) ?_
        refine va_get (D := G.1) (ci := 4) (v := .int ((it_X0_addFourBytes_3 len text p0 k).2)) (C := RX0) (T := TX0) (N := 13) hx hb hts in_X0 hown hK hP 0 rfl rfl 1 (by decide) (hts _ k_fl_X0_29) (fun _ h9 => h9) rfl dX0_addFourBytes_8 ?_
        refine lv_if_lt (tgt := 52) hx hb dX0_addFourBytes_11 (by decide) (fun c_3 => ?_) (fun c_3 => ?_)
        · skip
          refine lv_iinc (v := (24 - 8 * (nI (k + 1)))) (lv' := [(2, .int (24 - 8 * (nI (k + 1)))), (0, .ref a0), (1, .int p0)]) hx hb dX0_addFourBytes_52 hl (k := 0) rfl (sh8_s k) (by decide) rfl (fun ls hl => ?_)
          refine lv_goto (tgt := 3) hx hb dX0_addFourBytes_55 (by decide) ?_
          have ek : (it_X0_addFourBytes_3 len text p0 (k + 1)) = ((it_X0_addFourBytes_3 len text p0 k).1, (it_X0_addFourBytes_3 len text p0 k).2) := (if_pos c_3)
          exact ih (k + 1) (by omega) _ _ (by rw [ek]; exact hP) (by rw [ek]; exact hD) hS ls (lv_sub hl [0, 1, 2] rfl)
        · skip
          refine lv_aload_n hx hb dX0_addFourBytes_14 rfl (lv_at hl 1 rfl) ?_
          refine va_get (D := G.1) (ci := 4) (v := .int ((it_X0_addFourBytes_3 len text p0 k).2)) (C := RX0) (T := TX0) (N := 13) hx hb hts in_X0 hown hK hP 0 rfl rfl 1 (by decide) (hts _ k_fl_X0_29) (fun _ h9 => h9) rfl dX0_addFourBytes_15 ?_
          refine lv_aload_n hx hb dX0_addFourBytes_18 rfl (lv_at hl 1 rfl) ?_
          refine va_get (D := G.1) (ci := 4) (v := .ref a1) (C := RX0) (T := TX0) (N := 13) hx hb hts in_X0 hown hK hP 0 rfl rfl 0 (by decide) (hts _ k_fl_X0_9) (fun _ h9 => h9) rfl dX0_addFourBytes_19 ?_
          refine va_alen (v := 600) hx hb hK hP 1 0 rfl rfl rfl dX0_addFourBytes_22 ?_
          refine lv_icmp_ge (tgt := 52) hx hb dX0_addFourBytes_23 (by decide) (fun c_4 => ?_) (fun c_4 => ?_)
          · skip
            refine lv_iinc (v := (24 - 8 * (nI (k + 1)))) (lv' := [(2, .int (24 - 8 * (nI (k + 1)))), (0, .ref a0), (1, .int p0)]) hx hb dX0_addFourBytes_52 hl (k := 0) rfl (sh8_s k) (by decide) rfl (fun ls hl => ?_)
            refine lv_goto (tgt := 3) hx hb dX0_addFourBytes_55 (by decide) ?_
            have ek : (it_X0_addFourBytes_3 len text p0 (k + 1)) = ((it_X0_addFourBytes_3 len text p0 k).1, (it_X0_addFourBytes_3 len text p0 k).2) := ((if_neg c_3).trans (if_pos c_4))
            exact ih (k + 1) (by omega) _ _ (by rw [ek]; exact hP) (by rw [ek]; exact hD) hS ls (lv_sub hl [0, 1, 2] rfl)
          · skip
            refine lv_aload_n hx hb dX0_addFourBytes_26 rfl (lv_at hl 1 rfl) ?_
            refine va_get (D := G.1) (ci := 4) (v := .ref a1) (C := RX0) (T := TX0) (N := 13) hx hb hts in_X0 hown hK hP 0 rfl rfl 0 (by decide) (hts _ k_fl_X0_9) (fun _ h9 => h9) rfl dX0_addFourBytes_27 ?_
            refine lv_aload_n hx hb dX0_addFourBytes_30 rfl (lv_at hl 1 rfl) ?_
            refine va_get (D := G.1) (ci := 4) (v := .int ((it_X0_addFourBytes_3 len text p0 k).2)) (C := RX0) (T := TX0) (N := 13) hx hb hts in_X0 hown hK hP 0 rfl rfl 1 (by decide) (hts _ k_fl_X0_29) (fun _ h9 => h9) rfl dX0_addFourBytes_31 ?_
            refine lv_iload_n hx hb dX0_addFourBytes_34 rfl (lv_at hl 2 rfl) ?_
            refine lv_iload_n hx hb dX0_addFourBytes_35 rfl (lv_at hl 0 rfl) ?_
            refine lv_ishr hx hb dX0_addFourBytes_36 ?_
            refine lv_sipush (v := 255) hx hb dX0_addFourBytes_37 (by decide) ?_
            refine lv_iand hx hb dX0_addFourBytes_40 ?_
            refine va_iast hx hb hK hP hD hS 1 0 rfl rfl (by have z1 : (0 : Int32).toInt = 0 := (by decide); have qc_3 := c_3; (try rw [gI_lt] at qc_3); have z2 : (600 : Int32).toInt = 600 := (by decide); have qc_4 := c_4; (try rw [gI_le] at qc_4); (try rw [vp_in_iff]); omega) dX0_addFourBytes_41 (fun H locs hP hD hS => ?_)
            replace hP : va_P G.1 vwCl [(a0, .inr (4, [.ref a1, .int ((it_X0_addFourBytes_3 len text p0 k).2), .int ec, .int ep, .ref a2, .ref a3, .int wc, .int sl, .int pl, .int ki, .int ts, .int te, .int nu])), (a1, .inl (G.2.1.1, 600, .inl (upd ((it_X0_addFourBytes_3 len text p0 k).1) (Int32.toNatClampNeg ((it_X0_addFourBytes_3 len text p0 k).2)) (((p0 >>> ((24 - 8 * (nI k)) &&& 31)) : Int32) &&& 255))))] H := hP
            replace hD : va_D A [(a0, .inr (4, [.ref a1, .int ((it_X0_addFourBytes_3 len text p0 k).2), .int ec, .int ep, .ref a2, .ref a3, .int wc, .int sl, .int pl, .int ki, .int ts, .int te, .int nu])), (a1, .inl (G.2.1.1, 600, .inl (upd ((it_X0_addFourBytes_3 len text p0 k).1) (Int32.toNatClampNeg ((it_X0_addFourBytes_3 len text p0 k).2)) (((p0 >>> ((24 - 8 * (nI k)) &&& 31)) : Int32) &&& 255))))] := hD
            refine lv_aload_n hx hb dX0_addFourBytes_42 rfl (lv_at hl 1 rfl) ?_
            refine lv_dup hx hb dX0_addFourBytes_43 rfl ?_
            refine va_get (D := G.1) (ci := 4) (v := .int ((it_X0_addFourBytes_3 len text p0 k).2)) (C := RX0) (T := TX0) (N := 13) hx hb hts in_X0 hown hK hP 0 rfl rfl 1 (by decide) (hts _ k_fl_X0_29) (fun _ h9 => h9) rfl dX0_addFourBytes_44 ?_
            refine lv_iconst (v := 1) hx hb dX0_addFourBytes_47 (by decide) ?_
            refine lv_iadd hx hb dX0_addFourBytes_48 ?_
            refine va_put (D := G.1) (ci := 4) (v := .int ((it_X0_addFourBytes_3 len text p0 k).2 + 1)) (ty := .int) (C := RX0) (T := TX0) (N := 13) hx hb hts in_X0 tyX0 tyX0_ok nmX0 hown hK hP hD hS 0 rfl rfl 1 (by decide) (hts _ k_fl_X0_29) (fun _ h9 => h9) rfl (by decide +kernel) rfl rfl (Nat.le_of_ble_eq_true rfl) dX0_addFourBytes_49 (fun H locs hP hD hS => ?_)
            replace hP : va_P G.1 vwCl [(a0, .inr (4, [.ref a1, .int ((it_X0_addFourBytes_3 len text p0 k).2 + 1), .int ec, .int ep, .ref a2, .ref a3, .int wc, .int sl, .int pl, .int ki, .int ts, .int te, .int nu])), (a1, .inl (G.2.1.1, 600, .inl (upd ((it_X0_addFourBytes_3 len text p0 k).1) (Int32.toNatClampNeg ((it_X0_addFourBytes_3 len text p0 k).2)) (((p0 >>> ((24 - 8 * (nI k)) &&& 31)) : Int32) &&& 255))))] H := hP
            replace hD : va_D A [(a0, .inr (4, [.ref a1, .int ((it_X0_addFourBytes_3 len text p0 k).2 + 1), .int ec, .int ep, .ref a2, .ref a3, .int wc, .int sl, .int pl, .int ki, .int ts, .int te, .int nu])), (a1, .inl (G.2.1.1, 600, .inl (upd ((it_X0_addFourBytes_3 len text p0 k).1) (Int32.toNatClampNeg ((it_X0_addFourBytes_3 len text p0 k).2)) (((p0 >>> ((24 - 8 * (nI k)) &&& 31)) : Int32) &&& 255))))] := hD
            refine lv_iinc (v := (24 - 8 * (nI (k + 1)))) (lv' := [(2, .int (24 - 8 * (nI (k + 1)))), (0, .ref a0), (1, .int p0)]) hx hb dX0_addFourBytes_52 hl (k := 0) rfl (sh8_s k) (by decide) rfl (fun ls hl => ?_)
            refine lv_goto (tgt := 3) hx hb dX0_addFourBytes_55 (by decide) ?_
            have ek : (it_X0_addFourBytes_3 len text p0 (k + 1)) = ((upd ((it_X0_addFourBytes_3 len text p0 k).1) (Int32.toNatClampNeg ((it_X0_addFourBytes_3 len text p0 k).2)) (((p0 >>> ((24 - 8 * (nI k)) &&& 31)) : Int32) &&& 255)), ((it_X0_addFourBytes_3 len text p0 k).2 + 1)) := ((if_neg c_3).trans (if_neg c_4))
            exact ih (k + 1) (by omega) _ _ (by rw [ek]; exact hP) (by rw [ek]; exact hD) hS ls (lv_sub hl [0, 1, 2] rfl)
  exact loop_3 4 0 (by omega) _ _ hP hD hS ls (lv_sub hl [0, 1, 2] rfl)
theorem okV_X0_addFourBytes : gOkV yX0_addFourBytes cX0_addFourBytes 3 none 1 := ⟨⟨k_im_X0_addFourBytes, k_se_X0_addFourBytes, k_in_X0, k_cd_X0_addFourBytes⟩, by decide, by decide, by decide +kernel⟩
def st_X0_beginText_2  (k : Nat) (v0_ : Nat → Int32) : (Nat → Int32) :=
  (upd v0_ (Int32.toNatClampNeg (nI k)) (vp_nar .boolean 0))
def it_X0_beginText_2 (wri : Nat → Int32) : Nat → (Nat → Int32)
  | 0 => wri
  | i + 1 => st_X0_beginText_2 i (it_X0_beginText_2 wri i)
def f_X0_beginText (wri : Nat → Int32) : Int32 × Int32 × Int32 × Int32 × Int32 × Int32 × (Nat → Int32) :=
  (0, (-1), 0, (-1), 0, 0, (it_X0_beginText_2 wri 256))
set_option maxRecDepth 100000 in
set_option maxHeartbeats 4000000 in
theorem c_X0_beginText (l : Launch) (G : gG) (a0 : Nat) (a1 : Nat) (a2 : Nat) (a3 : Nat) (len : Int32) (ec : Int32) (ep : Int32) (wc : Int32) (sl : Int32) (pl : Int32) (ki : Int32) (ts : Int32) (te : Int32) (nu : Int32) (wri : Nat → Int32) : gM l G yX0_beginText cX0_beginText 2 none { frames := 0, cells := 0, slots := 0, locals := 0 } [.ref a0] [(a0, .inr (4, [.ref a1, .int len, .int ec, .int ep, .ref a2, .ref a3, .int wc, .int sl, .int pl, .int ki, .int ts, .int te, .int nu])), (a3, .inl (G.2.1.2.1, 256, .inl wri))] none [(a0, .inr (4, [.ref a1, .int len, .int ((f_X0_beginText wri).1), .int ((f_X0_beginText wri).2.1), .ref a2, .ref a3, .int ((f_X0_beginText wri).2.2.1), .int ((f_X0_beginText wri).2.2.2.1), .int ((f_X0_beginText wri).2.2.2.2.1), .int ki, .int ts, .int ((f_X0_beginText wri).2.2.2.2.2.1), .int nu])), (a3, .inl (G.2.1.2.1, 256, .inl ((f_X0_beginText wri).2.2.2.2.2.2)))] 0 0 := by
  refine gBegin (by decide +kernel) (Nat.le_of_ble_eq_true rfl) (fun p e s m args below meth c A F hr hlocks hname hN hK hP hD hA hS ls hl => ?_)
  obtain ⟨hx, hb, hml, hown, hts⟩ := id F
  replace hP : va_P G.1 vwCl [(a0, .inr (4, [.ref a1, .int len, .int ec, .int ep, .ref a2, .ref a3, .int wc, .int sl, .int pl, .int ki, .int ts, .int te, .int nu])), (a3, .inl (G.2.1.2.1, 256, .inl wri))] s.heap := hP
  replace hl : lv_has ls 2 [(0, .ref a0)] := hl
  refine lv_iconst (v := 0) hx hb dX0_beginText_0 (by decide) ?_
  refine lv_istore_n (lv' := [(1, .int 0), (0, .ref a0)]) hx hb dX0_beginText_1 rfl hl (by decide) rfl (fun ls hl => ?_)
  have loop_2 : ∀ (fu k : Nat), k + fu = 256 → ∀ (H : Heap) (locs : List Loc), va_P G.1 vwCl [(a0, .inr (4, [.ref a1, .int len, .int ec, .int ep, .ref a2, .ref a3, .int wc, .int sl, .int pl, .int ki, .int ts, .int te, .int nu])), (a3, .inl (G.2.1.2.1, 256, .inl (it_X0_beginText_2 wri k)))] H → va_D A [(a0, .inr (4, [.ref a1, .int len, .int ec, .int ep, .ref a2, .ref a3, .int wc, .int sl, .int pl, .int ki, .int ts, .int te, .int nu])), (a3, .inl (G.2.1.2.1, 256, .inl (it_X0_beginText_2 wri k)))] → va_S A s.heap H locs → ∀ ls : Array Slot, lv_has ls 2 [(1, .int (nI k)), (0, .ref a0)] → W p l e { frames := 0, cells := 0, slots := 0, locals := 0 } s m args below meth c H locs 0 0 (MQ below (gQ G none [(a0, .inr (4, [.ref a1, .int len, .int ((f_X0_beginText wri).1), .int ((f_X0_beginText wri).2.1), .ref a2, .ref a3, .int ((f_X0_beginText wri).2.2.1), .int ((f_X0_beginText wri).2.2.2.1), .int ((f_X0_beginText wri).2.2.2.2.1), .int ki, .int ts, .int ((f_X0_beginText wri).2.2.2.2.2.1), .int nu])), (a3, .inl (G.2.1.2.1, 256, .inl ((f_X0_beginText wri).2.2.2.2.2.2)))] A) args s 0 0 A) (F0 m 2 ls []) := by
    intro fu
    induction fu with
    | zero =>
      intro k hk H locs hP hD hS ls hl
      have ek : 256 = k := by omega
      subst ek
      replace hP : va_P G.1 vwCl [(a0, .inr (4, [.ref a1, .int len, .int ec, .int ep, .ref a2, .ref a3, .int wc, .int sl, .int pl, .int ki, .int ts, .int te, .int nu])), (a3, .inl (G.2.1.2.1, 256, .inl (it_X0_beginText_2 wri 256)))] H := hP
      replace hD : va_D A [(a0, .inr (4, [.ref a1, .int len, .int ec, .int ep, .ref a2, .ref a3, .int wc, .int sl, .int pl, .int ki, .int ts, .int te, .int nu])), (a3, .inl (G.2.1.2.1, 256, .inl (it_X0_beginText_2 wri 256)))] := hD
      replace hl : lv_has ls 2 [(1, .int (nI 256)), (0, .ref a0)] := hl
      refine lv_iload_n hx hb dX0_beginText_2 rfl (lv_at hl 0 rfl) ?_
      refine lv_sipush (v := 256) hx hb dX0_beginText_3 (by decide) ?_
      refine lv_icmp_ge (tgt := 22) hx hb dX0_beginText_6 (by decide) (fun c_1 => ?_) (fun c_1 => ?_)
      · skip
        refine lv_aload_n hx hb dX0_beginText_22 rfl (lv_at hl 1 rfl) ?_
        refine lv_iconst (v := 0) hx hb dX0_beginText_23 (by decide) ?_
        refine va_put (D := G.1) (ci := 4) (v := .int 0) (ty := .int) (C := RX0) (T := TX0) (N := 13) hx hb hts in_X0 tyX0 tyX0_ok nmX0 hown hK hP hD hS 0 rfl rfl 6 (by decide) (hts _ k_fl_X0_77) (fun _ h9 => h9) rfl (by decide +kernel) rfl rfl (Nat.le_of_ble_eq_true rfl) dX0_beginText_24 (fun H locs hP hD hS => ?_)
        replace hP : va_P G.1 vwCl [(a0, .inr (4, [.ref a1, .int len, .int ec, .int ep, .ref a2, .ref a3, .int 0, .int sl, .int pl, .int ki, .int ts, .int te, .int nu])), (a3, .inl (G.2.1.2.1, 256, .inl (it_X0_beginText_2 wri 256)))] H := hP
        replace hD : va_D A [(a0, .inr (4, [.ref a1, .int len, .int ec, .int ep, .ref a2, .ref a3, .int 0, .int sl, .int pl, .int ki, .int ts, .int te, .int nu])), (a3, .inl (G.2.1.2.1, 256, .inl (it_X0_beginText_2 wri 256)))] := hD
        refine lv_aload_n hx hb dX0_beginText_27 rfl (lv_at hl 1 rfl) ?_
        refine lv_iconst (v := (-1)) hx hb dX0_beginText_28 (by decide) ?_
        refine va_put (D := G.1) (ci := 4) (v := .int (-1)) (ty := .int) (C := RX0) (T := TX0) (N := 13) hx hb hts in_X0 tyX0 tyX0_ok nmX0 hown hK hP hD hS 0 rfl rfl 7 (by decide) (hts _ k_fl_X0_26) (fun _ h9 => h9) rfl (by decide +kernel) rfl rfl (Nat.le_of_ble_eq_true rfl) dX0_beginText_29 (fun H locs hP hD hS => ?_)
        replace hP : va_P G.1 vwCl [(a0, .inr (4, [.ref a1, .int len, .int ec, .int ep, .ref a2, .ref a3, .int 0, .int (-1), .int pl, .int ki, .int ts, .int te, .int nu])), (a3, .inl (G.2.1.2.1, 256, .inl (it_X0_beginText_2 wri 256)))] H := hP
        replace hD : va_D A [(a0, .inr (4, [.ref a1, .int len, .int ec, .int ep, .ref a2, .ref a3, .int 0, .int (-1), .int pl, .int ki, .int ts, .int te, .int nu])), (a3, .inl (G.2.1.2.1, 256, .inl (it_X0_beginText_2 wri 256)))] := hD
        refine lv_aload_n hx hb dX0_beginText_32 rfl (lv_at hl 1 rfl) ?_
        refine lv_iconst (v := 0) hx hb dX0_beginText_33 (by decide) ?_
        refine va_put (D := G.1) (ci := 4) (v := .int 0) (ty := .int) (C := RX0) (T := TX0) (N := 13) hx hb hts in_X0 tyX0 tyX0_ok nmX0 hown hK hP hD hS 0 rfl rfl 8 (by decide) (hts _ k_fl_X0_57) (fun _ h9 => h9) rfl (by decide +kernel) rfl rfl (Nat.le_of_ble_eq_true rfl) dX0_beginText_34 (fun H locs hP hD hS => ?_)
        replace hP : va_P G.1 vwCl [(a0, .inr (4, [.ref a1, .int len, .int ec, .int ep, .ref a2, .ref a3, .int 0, .int (-1), .int 0, .int ki, .int ts, .int te, .int nu])), (a3, .inl (G.2.1.2.1, 256, .inl (it_X0_beginText_2 wri 256)))] H := hP
        replace hD : va_D A [(a0, .inr (4, [.ref a1, .int len, .int ec, .int ep, .ref a2, .ref a3, .int 0, .int (-1), .int 0, .int ki, .int ts, .int te, .int nu])), (a3, .inl (G.2.1.2.1, 256, .inl (it_X0_beginText_2 wri 256)))] := hD
        refine lv_aload_n hx hb dX0_beginText_37 rfl (lv_at hl 1 rfl) ?_
        refine lv_iconst (v := 0) hx hb dX0_beginText_38 (by decide) ?_
        refine va_put (D := G.1) (ci := 4) (v := .int 0) (ty := .int) (C := RX0) (T := TX0) (N := 13) hx hb hts in_X0 tyX0 tyX0_ok nmX0 hown hK hP hD hS 0 rfl rfl 2 (by decide) (hts _ k_fl_X0_41) (fun _ h9 => h9) rfl (by decide +kernel) rfl rfl (Nat.le_of_ble_eq_true rfl) dX0_beginText_39 (fun H locs hP hD hS => ?_)
        replace hP : va_P G.1 vwCl [(a0, .inr (4, [.ref a1, .int len, .int 0, .int ep, .ref a2, .ref a3, .int 0, .int (-1), .int 0, .int ki, .int ts, .int te, .int nu])), (a3, .inl (G.2.1.2.1, 256, .inl (it_X0_beginText_2 wri 256)))] H := hP
        replace hD : va_D A [(a0, .inr (4, [.ref a1, .int len, .int 0, .int ep, .ref a2, .ref a3, .int 0, .int (-1), .int 0, .int ki, .int ts, .int te, .int nu])), (a3, .inl (G.2.1.2.1, 256, .inl (it_X0_beginText_2 wri 256)))] := hD
        refine lv_aload_n hx hb dX0_beginText_42 rfl (lv_at hl 1 rfl) ?_
        refine lv_iconst (v := (-1)) hx hb dX0_beginText_43 (by decide) ?_
        refine va_put (D := G.1) (ci := 4) (v := .int (-1)) (ty := .int) (C := RX0) (T := TX0) (N := 13) hx hb hts in_X0 tyX0 tyX0_ok nmX0 hown hK hP hD hS 0 rfl rfl 3 (by decide) (hts _ k_fl_X0_15) (fun _ h9 => h9) rfl (by decide +kernel) rfl rfl (Nat.le_of_ble_eq_true rfl) dX0_beginText_44 (fun H locs hP hD hS => ?_)
        replace hP : va_P G.1 vwCl [(a0, .inr (4, [.ref a1, .int len, .int 0, .int (-1), .ref a2, .ref a3, .int 0, .int (-1), .int 0, .int ki, .int ts, .int te, .int nu])), (a3, .inl (G.2.1.2.1, 256, .inl (it_X0_beginText_2 wri 256)))] H := hP
        replace hD : va_D A [(a0, .inr (4, [.ref a1, .int len, .int 0, .int (-1), .ref a2, .ref a3, .int 0, .int (-1), .int 0, .int ki, .int ts, .int te, .int nu])), (a3, .inl (G.2.1.2.1, 256, .inl (it_X0_beginText_2 wri 256)))] := hD
        refine lv_aload_n hx hb dX0_beginText_47 rfl (lv_at hl 1 rfl) ?_
        refine lv_iconst (v := 0) hx hb dX0_beginText_48 (by decide) ?_
        refine va_put (D := G.1) (ci := 4) (v := .int 0) (ty := .int) (C := RX0) (T := TX0) (N := 13) hx hb hts in_X0 tyX0 tyX0_ok nmX0 hown hK hP hD hS 0 rfl rfl 11 (by decide) (hts _ k_fl_X0_80) (fun _ h9 => h9) rfl (by decide +kernel) rfl rfl (Nat.le_of_ble_eq_true rfl) dX0_beginText_49 (fun H locs hP hD hS => ?_)
        replace hP : va_P G.1 vwCl [(a0, .inr (4, [.ref a1, .int len, .int 0, .int (-1), .ref a2, .ref a3, .int 0, .int (-1), .int 0, .int ki, .int ts, .int 0, .int nu])), (a3, .inl (G.2.1.2.1, 256, .inl (it_X0_beginText_2 wri 256)))] H := hP
        replace hD : va_D A [(a0, .inr (4, [.ref a1, .int len, .int 0, .int (-1), .ref a2, .ref a3, .int 0, .int (-1), .int 0, .int ki, .int ts, .int 0, .int nu])), (a3, .inl (G.2.1.2.1, 256, .inl (it_X0_beginText_2 wri 256)))] := hD
        exact gRetV F hr hlocks hK hP hD hS rfl rfl (Nat.le_of_ble_eq_true rfl) (Nat.le_of_ble_eq_true rfl) dX0_beginText_52
      · exact absurd (Int32.le_refl _) c_1
    | succ fu ih =>
      intro k hk H locs hP hD hS ls hl
      have hlt_k : k < 256 := by omega
      refine lv_iload_n hx hb dX0_beginText_2 rfl (lv_at hl 0 rfl) ?_
      refine lv_sipush (v := 256) hx hb dX0_beginText_3 (by decide) ?_
      refine lv_icmp_ge (tgt := 22) hx hb dX0_beginText_6 (by decide) (fun c_2 => ?_) (fun c_2 => ?_)
      · exact absurd c_2 (nI_ge hlt_k (by decide))
      · skip
        refine lv_aload_n hx hb dX0_beginText_9 rfl (lv_at hl 1 rfl) ?_
        refine va_get (D := G.1) (ci := 4) (v := .ref a3) (C := RX0) (T := TX0) (N := 13) hx hb hts in_X0 hown hK hP 0 rfl rfl 5 (by decide) (hts _ k_fl_X0_22) (fun _ h9 => h9) rfl dX0_beginText_10 ?_
        refine lv_iload_n hx hb dX0_beginText_13 rfl (lv_at hl 0 rfl) ?_
        refine lv_iconst (v := 0) hx hb dX0_beginText_14 (by decide) ?_
        refine va_zast hx hb hK hP hD hS 1 1 rfl rfl (vp_in_nI (Nat.lt_of_lt_of_le hlt_k (Nat.le_of_ble_eq_true rfl)) (by decide)) dX0_beginText_15 (fun H locs hP hD hS => ?_)
        replace hP : va_P G.1 vwCl [(a0, .inr (4, [.ref a1, .int len, .int ec, .int ep, .ref a2, .ref a3, .int wc, .int sl, .int pl, .int ki, .int ts, .int te, .int nu])), (a3, .inl (G.2.1.2.1, 256, .inl (upd (it_X0_beginText_2 wri k) (Int32.toNatClampNeg (nI k)) (vp_nar .boolean 0))))] H := hP
        replace hD : va_D A [(a0, .inr (4, [.ref a1, .int len, .int ec, .int ep, .ref a2, .ref a3, .int wc, .int sl, .int pl, .int ki, .int ts, .int te, .int nu])), (a3, .inl (G.2.1.2.1, 256, .inl (upd (it_X0_beginText_2 wri k) (Int32.toNatClampNeg (nI k)) (vp_nar .boolean 0))))] := hD
        refine lv_iinc (v := (nI (k + 1))) (lv' := [(1, .int (nI (k + 1))), (0, .ref a0)]) hx hb dX0_beginText_16 hl (k := 0) rfl (nI_1 k) (by decide) rfl (fun ls hl => ?_)
        refine lv_goto (tgt := 2) hx hb dX0_beginText_19 (by decide) ?_
        have ek : (it_X0_beginText_2 wri (k + 1)) = (upd (it_X0_beginText_2 wri k) (Int32.toNatClampNeg (nI k)) (vp_nar .boolean 0)) := rfl
        exact ih (k + 1) (by omega) _ _ (by rw [ek]; exact hP) (by rw [ek]; exact hD) hS ls (lv_sub hl [0, 1] rfl)
  exact loop_2 256 0 (by omega) _ _ hP hD hS ls (lv_sub hl [0, 1] rfl)
theorem okV_X0_beginText : gOkV yX0_beginText cX0_beginText 2 none 0 := ⟨⟨k_im_X0_beginText, k_se_X0_beginText, k_in_X0, k_cd_X0_beginText⟩, by decide, by decide, by decide +kernel⟩
def wl_X0_readLetters (len : Int32) (te : Int32) (text : Nat → Int32) : Nat → Int32 → Int32
  | 0, _ => te
  | n + 1, y0_11 =>
    if len ≤ y0_11 then
      y0_11
    else
      if (f_X0_isLetter (f_X0_byteAt len text y0_11)) = 0 then
        y0_11
      else
        wl_X0_readLetters len te text n (y0_11 + 1)
def f_X0_readLetters (len : Int32) (te : Int32) (text : Nat → Int32) : Int32 :=
  (wl_X0_readLetters len te text ((len.toInt - te.toInt).toNat + 1) te)
set_option maxRecDepth 100000 in
set_option maxHeartbeats 4000000 in
theorem c_X0_readLetters (l : Launch) (G : gG) (a0 : Nat) (a1 : Nat) (a2 : Nat) (a3 : Nat) (len : Int32) (ec : Int32) (ep : Int32) (wc : Int32) (sl : Int32) (pl : Int32) (ki : Int32) (ts : Int32) (te : Int32) (nu : Int32) (text : Nat → Int32) : gM l G yX0_readLetters cX0_readLetters 1 none { frames := 1, cells := 0, slots := 0, locals := 21 } [.ref a0] [(a0, .inr (4, [.ref a1, .int len, .int ec, .int ep, .ref a2, .ref a3, .int wc, .int sl, .int pl, .int ki, .int ts, .int te, .int nu])), (a1, .inl (G.2.1.1, 600, .inl text))] none [(a0, .inr (4, [.ref a1, .int len, .int ec, .int ep, .ref a2, .ref a3, .int wc, .int sl, .int pl, .int ki, .int ts, .int (f_X0_readLetters len te text), .int nu])), (a1, .inl (G.2.1.1, 600, .inl text))] 0 0 := by
  refine gBegin (by decide +kernel) (Nat.le_of_ble_eq_true rfl) (fun p e s m args below meth c A F hr hlocks hname hN hK hP hD hA hS ls hl => ?_)
  obtain ⟨hx, hb, hml, hown, hts⟩ := id F
  replace hP : va_P G.1 vwCl [(a0, .inr (4, [.ref a1, .int len, .int ec, .int ep, .ref a2, .ref a3, .int wc, .int sl, .int pl, .int ki, .int ts, .int te, .int nu])), (a1, .inl (G.2.1.1, 600, .inl text))] s.heap := hP
  replace hl : lv_has ls 1 [(0, .ref a0)] := hl
  have loop_0 : ∀ (fu : Nat) (y0_11 : Int32), (True) → (len.toInt - y0_11.toInt).toNat < fu → (f_X0_readLetters len te text) = wl_X0_readLetters len te text fu y0_11 → ∀ (H : Heap) (locs : List Loc), va_P G.1 vwCl [(a0, .inr (4, [.ref a1, .int len, .int ec, .int ep, .ref a2, .ref a3, .int wc, .int sl, .int pl, .int ki, .int ts, .int y0_11, .int nu])), (a1, .inl (G.2.1.1, 600, .inl text))] H → va_D A [(a0, .inr (4, [.ref a1, .int len, .int ec, .int ep, .ref a2, .ref a3, .int wc, .int sl, .int pl, .int ki, .int ts, .int y0_11, .int nu])), (a1, .inl (G.2.1.1, 600, .inl text))] → va_S A s.heap H locs → ∀ ls : Array Slot, lv_has ls 1 [(0, .ref a0)] → W p l e { frames := 1, cells := 0, slots := 0, locals := 21 } s m args below meth c H locs 0 0 (MQ below (gQ G none [(a0, .inr (4, [.ref a1, .int len, .int ec, .int ep, .ref a2, .ref a3, .int wc, .int sl, .int pl, .int ki, .int ts, .int (f_X0_readLetters len te text), .int nu])), (a1, .inl (G.2.1.1, 600, .inl text))] A) args s 0 0 A) (F0 m 0 ls []) := by
    intro fu
    induction fu with
    | zero =>
      intro y0_11 hI hn
      exact absurd hn (Nat.not_lt_zero _)
    | succ fu ih =>
      intro y0_11 hI hn hO H locs hP hD hS ls hl
      refine lv_aload_n hx hb dX0_readLetters_0 rfl (lv_at hl 0 rfl) ?_
      refine va_get (D := G.1) (ci := 4) (v := .int y0_11) (C := RX0) (T := TX0) (N := 13) hx hb hts in_X0 hown hK hP 0 rfl rfl 11 (by decide) (hts _ k_fl_X0_80) (fun _ h9 => h9) rfl dX0_readLetters_1 ?_
      refine lv_aload_n hx hb dX0_readLetters_4 rfl (lv_at hl 0 rfl) ?_
      refine va_get (D := G.1) (ci := 4) (v := .int len) (C := RX0) (T := TX0) (N := 13) hx hb hts in_X0 hown hK hP 0 rfl rfl 1 (by decide) (hts _ k_fl_X0_29) (fun _ h9 => h9) rfl dX0_readLetters_5 ?_
      refine lv_icmp_ge (tgt := 38) hx hb dX0_readLetters_8 (by decide) (fun c_1 => ?_) (fun c_1 => ?_)
      · skip
        have ef : (f_X0_readLetters len te text) = y0_11 := (hO.trans (if_pos c_1))
        exact gRetV F hr hlocks hK hP hD hS rfl (by rw [ef]) (Nat.le_of_ble_eq_true rfl) (Nat.le_of_ble_eq_true rfl) dX0_readLetters_38
      · skip
        refine lv_aload_n hx hb dX0_readLetters_11 rfl (lv_at hl 0 rfl) ?_
        refine lv_aload_n hx hb dX0_readLetters_12 rfl (lv_at hl 0 rfl) ?_
        refine va_get (D := G.1) (ci := 4) (v := .int y0_11) (C := RX0) (T := TX0) (N := 13) hx hb hts in_X0 hown hK hP 0 rfl rfl 11 (by decide) (hts _ k_fl_X0_80) (fun _ h9 => h9) rfl dX0_readLetters_13 ?_
        refine gV (As := [.int y0_11]) (rest := []) (wr := []) (ws' := [(a0, .inr (4, [.ref a1, .int len, .int ec, .int ep, .ref a2, .ref a3, .int wc, .int sl, .int pl, .int ki, .int ts, .int y0_11, .int nu])), (a1, .inl (G.2.1.1, 600, .inl text))]) F (c_X0_byteAt l G a0 a1 a2 a3 len ec ep wc sl pl ki ts y0_11 nu text y0_11) okV_X0_byteAt k_ml_X0_134 rfl rfl ⟨Nat.le_of_ble_eq_true rfl, Nat.le_of_ble_eq_true rfl⟩ hN hK hP hD hS hA [0, 1] [] [0, 1] (by decide) rfl rfl (by decide) (by decide) (by decide) rfl (q0 := 0) rfl rfl rfl rfl hl.1 (Nat.le_of_ble_eq_true rfl) dX0_readLetters_16 ⟨Nat.le_refl _, Nat.le_refl _⟩ (fun H locs hP hD hS => ?_)
        refine gS (As := [.int (f_X0_byteAt len text y0_11)]) (rest := []) (wr := [(a0, .inr (4, [.ref a1, .int len, .int ec, .int ep, .ref a2, .ref a3, .int wc, .int sl, .int pl, .int ki, .int ts, .int y0_11, .int nu])), (a1, .inl (G.2.1.1, 600, .inl text))]) (ws' := [(a0, .inr (4, [.ref a1, .int len, .int ec, .int ep, .ref a2, .ref a3, .int wc, .int sl, .int pl, .int ki, .int ts, .int y0_11, .int nu])), (a1, .inl (G.2.1.1, 600, .inl text))]) F (c_X0_isLetter l G (f_X0_byteAt len text y0_11)) okS_X0_isLetter k_ml_X0_149 rfl rfl ⟨Nat.le_of_ble_eq_true rfl, Nat.le_of_ble_eq_true rfl⟩ hN hK hP hD hS hA [] [0, 1] [0, 1] (by decide) rfl rfl (by decide) (by decide) (by decide) rfl rfl rfl hl.1 (Nat.le_of_ble_eq_true rfl) dX0_readLetters_19 ⟨Nat.le_refl _, Nat.le_refl _⟩ (fun H locs hP hD hS => ?_)
        refine lv_if_eq (tgt := 38) hx hb dX0_readLetters_22 (by decide) (fun c_2 => ?_) (fun c_2 => ?_)
        · skip
          have ef : (f_X0_readLetters len te text) = y0_11 := (hO.trans (((if_neg c_1).trans (if_pos c_2))))
          exact gRetV F hr hlocks hK hP hD hS rfl (by rw [ef]) (Nat.le_of_ble_eq_true rfl) (Nat.le_of_ble_eq_true rfl) dX0_readLetters_38
        · skip
          refine lv_aload_n hx hb dX0_readLetters_25 rfl (lv_at hl 0 rfl) ?_
          refine lv_dup hx hb dX0_readLetters_26 rfl ?_
          refine va_get (D := G.1) (ci := 4) (v := .int y0_11) (C := RX0) (T := TX0) (N := 13) hx hb hts in_X0 hown hK hP 0 rfl rfl 11 (by decide) (hts _ k_fl_X0_80) (fun _ h9 => h9) rfl dX0_readLetters_27 ?_
          refine lv_iconst (v := 1) hx hb dX0_readLetters_30 (by decide) ?_
          refine lv_iadd hx hb dX0_readLetters_31 ?_
          refine va_put (D := G.1) (ci := 4) (v := .int (y0_11 + 1)) (ty := .int) (C := RX0) (T := TX0) (N := 13) hx hb hts in_X0 tyX0 tyX0_ok nmX0 hown hK hP hD hS 0 rfl rfl 11 (by decide) (hts _ k_fl_X0_80) (fun _ h9 => h9) rfl (by decide +kernel) rfl rfl (Nat.le_of_ble_eq_true rfl) dX0_readLetters_32 (fun H locs hP hD hS => ?_)
          replace hP : va_P G.1 vwCl [(a0, .inr (4, [.ref a1, .int len, .int ec, .int ep, .ref a2, .ref a3, .int wc, .int sl, .int pl, .int ki, .int ts, .int (y0_11 + 1), .int nu])), (a1, .inl (G.2.1.1, 600, .inl text))] H := hP
          replace hD : va_D A [(a0, .inr (4, [.ref a1, .int len, .int ec, .int ep, .ref a2, .ref a3, .int wc, .int sl, .int pl, .int ki, .int ts, .int (y0_11 + 1), .int nu])), (a1, .inl (G.2.1.1, 600, .inl text))] := hD
          refine lv_goto (tgt := 0) hx hb dX0_readLetters_35 (by decide) ?_
          exact ih (y0_11 + 1) trivial (tok_mu c_1 hn) (hO.trans (((if_neg c_1).trans (if_neg c_2)))) _ _ hP hD hS ls (lv_sub hl [0] rfl)
  exact loop_0 ((len.toInt - te.toInt).toNat + 1) te trivial (by (try rw [vp_in_iff]); omega) rfl _ _ hP hD hS ls (lv_sub hl [0] rfl)
theorem okV_X0_readLetters : gOkV yX0_readLetters cX0_readLetters 1 none 0 := ⟨⟨k_im_X0_readLetters, k_se_X0_readLetters, k_in_X0, k_cd_X0_readLetters⟩, by decide, by decide, by decide +kernel⟩
def wl_X0_readDigits (len : Int32) (ki : Int32) (ts : Int32) (text : Nat → Int32) : Nat → Int32 → Int32 → Int32 × Int32 × Int32
  | 0, _, _ => (ki, ts, 0)
  | n + 1, y0_11, y0_12 =>
    if len ≤ y0_11 then
      if (y0_11 - ts) ≤ 6 then
        (2, y0_11, y0_12)
      else
        (3, y0_11, y0_12)
    else
      if (f_X0_isDigit (f_X0_byteAt len text y0_11)) = 0 then
        if (y0_11 - ts) ≤ 6 then
          (2, y0_11, y0_12)
        else
          (3, y0_11, y0_12)
      else
        wl_X0_readDigits len ki ts text n (y0_11 + 1) (((10 * y0_12) + (f_X0_byteAt len text y0_11)) - 48)
def f_X0_readDigits (len : Int32) (ki : Int32) (ts : Int32) (text : Nat → Int32) : Int32 × Int32 × Int32 :=
  (wl_X0_readDigits len ki ts text ((len.toInt - ts.toInt).toNat + 1) ts 0)
set_option maxRecDepth 100000 in
set_option maxHeartbeats 4000000 in
theorem c_X0_readDigits (l : Launch) (G : gG) (a0 : Nat) (a1 : Nat) (a2 : Nat) (a3 : Nat) (len : Int32) (ec : Int32) (ep : Int32) (wc : Int32) (sl : Int32) (pl : Int32) (ki : Int32) (ts : Int32) (te : Int32) (nu : Int32) (text : Nat → Int32) : gM l G yX0_readDigits cX0_readDigits 1 none { frames := 1, cells := 0, slots := 0, locals := 21 } [.ref a0] [(a0, .inr (4, [.ref a1, .int len, .int ec, .int ep, .ref a2, .ref a3, .int wc, .int sl, .int pl, .int ki, .int ts, .int te, .int nu])), (a1, .inl (G.2.1.1, 600, .inl text))] none [(a0, .inr (4, [.ref a1, .int len, .int ec, .int ep, .ref a2, .ref a3, .int wc, .int sl, .int pl, .int ((f_X0_readDigits len ki ts text).1), .int ts, .int ((f_X0_readDigits len ki ts text).2.1), .int ((f_X0_readDigits len ki ts text).2.2)])), (a1, .inl (G.2.1.1, 600, .inl text))] 0 0 := by
  refine gBegin (by decide +kernel) (Nat.le_of_ble_eq_true rfl) (fun p e s m args below meth c A F hr hlocks hname hN hK hP hD hA hS ls hl => ?_)
  obtain ⟨hx, hb, hml, hown, hts⟩ := id F
  replace hP : va_P G.1 vwCl [(a0, .inr (4, [.ref a1, .int len, .int ec, .int ep, .ref a2, .ref a3, .int wc, .int sl, .int pl, .int ki, .int ts, .int te, .int nu])), (a1, .inl (G.2.1.1, 600, .inl text))] s.heap := hP
  replace hl : lv_has ls 1 [(0, .ref a0)] := hl
  refine lv_aload_n hx hb dX0_readDigits_0 rfl (lv_at hl 0 rfl) ?_
  refine lv_aload_n hx hb dX0_readDigits_1 rfl (lv_at hl 0 rfl) ?_
  refine va_get (D := G.1) (ci := 4) (v := .int ts) (C := RX0) (T := TX0) (N := 13) hx hb hts in_X0 hown hK hP 0 rfl rfl 10 (by decide) (hts _ k_fl_X0_123) (fun _ h9 => h9) rfl dX0_readDigits_2 ?_
  refine va_put (D := G.1) (ci := 4) (v := .int ts) (ty := .int) (C := RX0) (T := TX0) (N := 13) hx hb hts in_X0 tyX0 tyX0_ok nmX0 hown hK hP hD hS 0 rfl rfl 11 (by decide) (hts _ k_fl_X0_80) (fun _ h9 => h9) rfl (by decide +kernel) rfl rfl (Nat.le_of_ble_eq_true rfl) dX0_readDigits_5 (fun H locs hP hD hS => ?_)
  replace hP : va_P G.1 vwCl [(a0, .inr (4, [.ref a1, .int len, .int ec, .int ep, .ref a2, .ref a3, .int wc, .int sl, .int pl, .int ki, .int ts, .int ts, .int nu])), (a1, .inl (G.2.1.1, 600, .inl text))] H := hP
  replace hD : va_D A [(a0, .inr (4, [.ref a1, .int len, .int ec, .int ep, .ref a2, .ref a3, .int wc, .int sl, .int pl, .int ki, .int ts, .int ts, .int nu])), (a1, .inl (G.2.1.1, 600, .inl text))] := hD
  refine lv_aload_n hx hb dX0_readDigits_8 rfl (lv_at hl 0 rfl) ?_
  refine lv_iconst (v := 0) hx hb dX0_readDigits_9 (by decide) ?_
  refine va_put (D := G.1) (ci := 4) (v := .int 0) (ty := .int) (C := RX0) (T := TX0) (N := 13) hx hb hts in_X0 tyX0 tyX0_ok nmX0 hown hK hP hD hS 0 rfl rfl 12 (by decide) (hts _ k_fl_X0_113) (fun _ h9 => h9) rfl (by decide +kernel) rfl rfl (Nat.le_of_ble_eq_true rfl) dX0_readDigits_10 (fun H locs hP hD hS => ?_)
  replace hP : va_P G.1 vwCl [(a0, .inr (4, [.ref a1, .int len, .int ec, .int ep, .ref a2, .ref a3, .int wc, .int sl, .int pl, .int ki, .int ts, .int ts, .int 0])), (a1, .inl (G.2.1.1, 600, .inl text))] H := hP
  replace hD : va_D A [(a0, .inr (4, [.ref a1, .int len, .int ec, .int ep, .ref a2, .ref a3, .int wc, .int sl, .int pl, .int ki, .int ts, .int ts, .int 0])), (a1, .inl (G.2.1.1, 600, .inl text))] := hD
  have loop_13 : ∀ (fu : Nat) (y0_11 : Int32) (y0_12 : Int32), (True) → (len.toInt - y0_11.toInt).toNat < fu → (f_X0_readDigits len ki ts text) = wl_X0_readDigits len ki ts text fu y0_11 y0_12 → ∀ (H : Heap) (locs : List Loc), va_P G.1 vwCl [(a0, .inr (4, [.ref a1, .int len, .int ec, .int ep, .ref a2, .ref a3, .int wc, .int sl, .int pl, .int ki, .int ts, .int y0_11, .int y0_12])), (a1, .inl (G.2.1.1, 600, .inl text))] H → va_D A [(a0, .inr (4, [.ref a1, .int len, .int ec, .int ep, .ref a2, .ref a3, .int wc, .int sl, .int pl, .int ki, .int ts, .int y0_11, .int y0_12])), (a1, .inl (G.2.1.1, 600, .inl text))] → va_S A s.heap H locs → ∀ ls : Array Slot, lv_has ls 1 [(0, .ref a0)] → W p l e { frames := 1, cells := 0, slots := 0, locals := 21 } s m args below meth c H locs 0 0 (MQ below (gQ G none [(a0, .inr (4, [.ref a1, .int len, .int ec, .int ep, .ref a2, .ref a3, .int wc, .int sl, .int pl, .int ((f_X0_readDigits len ki ts text).1), .int ts, .int ((f_X0_readDigits len ki ts text).2.1), .int ((f_X0_readDigits len ki ts text).2.2)])), (a1, .inl (G.2.1.1, 600, .inl text))] A) args s 0 0 A) (F0 m 13 ls []) := by
    intro fu
    induction fu with
    | zero =>
      intro y0_11 y0_12 hI hn
      exact absurd hn (Nat.not_lt_zero _)
    | succ fu ih =>
      intro y0_11 y0_12 hI hn hO H locs hP hD hS ls hl
      refine lv_aload_n hx hb dX0_readDigits_13 rfl (lv_at hl 0 rfl) ?_
      refine va_get (D := G.1) (ci := 4) (v := .int y0_11) (C := RX0) (T := TX0) (N := 13) hx hb hts in_X0 hown hK hP 0 rfl rfl 11 (by decide) (hts _ k_fl_X0_80) (fun _ h9 => h9) rfl dX0_readDigits_14 ?_
      refine lv_aload_n hx hb dX0_readDigits_17 rfl (lv_at hl 0 rfl) ?_
      refine va_get (D := G.1) (ci := 4) (v := .int len) (C := RX0) (T := TX0) (N := 13) hx hb hts in_X0 hown hK hP 0 rfl rfl 1 (by decide) (hts _ k_fl_X0_29) (fun _ h9 => h9) rfl dX0_readDigits_18 ?_
      refine lv_icmp_ge (tgt := 74) hx hb dX0_readDigits_21 (by decide) (fun c_1 => ?_) (fun c_1 => ?_)
      · skip
        refine lv_aload_n hx hb dX0_readDigits_74 rfl (lv_at hl 0 rfl) ?_
        refine lv_aload_n hx hb dX0_readDigits_75 rfl (lv_at hl 0 rfl) ?_
        refine va_get (D := G.1) (ci := 4) (v := .int y0_11) (C := RX0) (T := TX0) (N := 13) hx hb hts in_X0 hown hK hP 0 rfl rfl 11 (by decide) (hts _ k_fl_X0_80) (fun _ h9 => h9) rfl dX0_readDigits_76 ?_
        refine lv_aload_n hx hb dX0_readDigits_79 rfl (lv_at hl 0 rfl) ?_
        refine va_get (D := G.1) (ci := 4) (v := .int ts) (C := RX0) (T := TX0) (N := 13) hx hb hts in_X0 hown hK hP 0 rfl rfl 10 (by decide) (hts _ k_fl_X0_123) (fun _ h9 => h9) rfl dX0_readDigits_80 ?_
        refine lv_isub hx hb dX0_readDigits_83 ?_
        refine lv_bipush (v := 6) hx hb dX0_readDigits_84 (by decide) ?_
        refine lv_icmp_le (tgt := 93) hx hb dX0_readDigits_86 (by decide) (fun c_2 => ?_) (fun c_2 => ?_)
        · skip
          refine lv_iconst (v := 2) hx hb dX0_readDigits_93 (by decide) ?_
          refine va_put (D := G.1) (ci := 4) (v := .int 2) (ty := .int) (C := RX0) (T := TX0) (N := 13) hx hb hts in_X0 tyX0 tyX0_ok nmX0 hown hK hP hD hS 0 rfl rfl 9 (by decide) (hts _ k_fl_X0_38) (fun _ h9 => h9) rfl (by decide +kernel) rfl rfl (Nat.le_of_ble_eq_true rfl) dX0_readDigits_94 (fun H locs hP hD hS => ?_)
          replace hP : va_P G.1 vwCl [(a0, .inr (4, [.ref a1, .int len, .int ec, .int ep, .ref a2, .ref a3, .int wc, .int sl, .int pl, .int 2, .int ts, .int y0_11, .int y0_12])), (a1, .inl (G.2.1.1, 600, .inl text))] H := hP
          replace hD : va_D A [(a0, .inr (4, [.ref a1, .int len, .int ec, .int ep, .ref a2, .ref a3, .int wc, .int sl, .int pl, .int 2, .int ts, .int y0_11, .int y0_12])), (a1, .inl (G.2.1.1, 600, .inl text))] := hD
          have ef : (f_X0_readDigits len ki ts text) = (2, y0_11, y0_12) := (hO.trans (((if_pos c_1).trans (if_pos c_2))))
          exact gRetV F hr hlocks hK hP hD hS rfl (by rw [ef]) (Nat.le_of_ble_eq_true rfl) (Nat.le_of_ble_eq_true rfl) dX0_readDigits_97
        · skip
          refine lv_iconst (v := 3) hx hb dX0_readDigits_89 (by decide) ?_
          refine lv_goto (tgt := 94) hx hb dX0_readDigits_90 (by decide) ?_
          refine va_put (D := G.1) (ci := 4) (v := .int 3) (ty := .int) (C := RX0) (T := TX0) (N := 13) hx hb hts in_X0 tyX0 tyX0_ok nmX0 hown hK hP hD hS 0 rfl rfl 9 (by decide) (hts _ k_fl_X0_38) (fun _ h9 => h9) rfl (by decide +kernel) rfl rfl (Nat.le_of_ble_eq_true rfl) dX0_readDigits_94 (fun H locs hP hD hS => ?_)
          replace hP : va_P G.1 vwCl [(a0, .inr (4, [.ref a1, .int len, .int ec, .int ep, .ref a2, .ref a3, .int wc, .int sl, .int pl, .int 3, .int ts, .int y0_11, .int y0_12])), (a1, .inl (G.2.1.1, 600, .inl text))] H := hP
          replace hD : va_D A [(a0, .inr (4, [.ref a1, .int len, .int ec, .int ep, .ref a2, .ref a3, .int wc, .int sl, .int pl, .int 3, .int ts, .int y0_11, .int y0_12])), (a1, .inl (G.2.1.1, 600, .inl text))] := hD
          have ef : (f_X0_readDigits len ki ts text) = (3, y0_11, y0_12) := (hO.trans (((if_pos c_1).trans (if_neg c_2))))
          exact gRetV F hr hlocks hK hP hD hS rfl (by rw [ef]) (Nat.le_of_ble_eq_true rfl) (Nat.le_of_ble_eq_true rfl) dX0_readDigits_97
      · skip
        refine lv_aload_n hx hb dX0_readDigits_24 rfl (lv_at hl 0 rfl) ?_
        refine lv_aload_n hx hb dX0_readDigits_25 rfl (lv_at hl 0 rfl) ?_
        refine va_get (D := G.1) (ci := 4) (v := .int y0_11) (C := RX0) (T := TX0) (N := 13) hx hb hts in_X0 hown hK hP 0 rfl rfl 11 (by decide) (hts _ k_fl_X0_80) (fun _ h9 => h9) rfl dX0_readDigits_26 ?_
        refine gV (As := [.int y0_11]) (rest := []) (wr := []) (ws' := [(a0, .inr (4, [.ref a1, .int len, .int ec, .int ep, .ref a2, .ref a3, .int wc, .int sl, .int pl, .int ki, .int ts, .int y0_11, .int y0_12])), (a1, .inl (G.2.1.1, 600, .inl text))]) F (c_X0_byteAt l G a0 a1 a2 a3 len ec ep wc sl pl ki ts y0_11 y0_12 text y0_11) okV_X0_byteAt k_ml_X0_134 rfl rfl ⟨Nat.le_of_ble_eq_true rfl, Nat.le_of_ble_eq_true rfl⟩ hN hK hP hD hS hA [0, 1] [] [0, 1] (by decide) rfl rfl (by decide) (by decide) (by decide) rfl (q0 := 0) rfl rfl rfl rfl hl.1 (Nat.le_of_ble_eq_true rfl) dX0_readDigits_29 ⟨Nat.le_refl _, Nat.le_refl _⟩ (fun H locs hP hD hS => ?_)
        refine gS (As := [.int (f_X0_byteAt len text y0_11)]) (rest := []) (wr := [(a0, .inr (4, [.ref a1, .int len, .int ec, .int ep, .ref a2, .ref a3, .int wc, .int sl, .int pl, .int ki, .int ts, .int y0_11, .int y0_12])), (a1, .inl (G.2.1.1, 600, .inl text))]) (ws' := [(a0, .inr (4, [.ref a1, .int len, .int ec, .int ep, .ref a2, .ref a3, .int wc, .int sl, .int pl, .int ki, .int ts, .int y0_11, .int y0_12])), (a1, .inl (G.2.1.1, 600, .inl text))]) F (c_X0_isDigit l G (f_X0_byteAt len text y0_11)) okS_X0_isDigit k_ml_X0_155 rfl rfl ⟨Nat.le_of_ble_eq_true rfl, Nat.le_of_ble_eq_true rfl⟩ hN hK hP hD hS hA [] [0, 1] [0, 1] (by decide) rfl rfl (by decide) (by decide) (by decide) rfl rfl rfl hl.1 (Nat.le_of_ble_eq_true rfl) dX0_readDigits_32 ⟨Nat.le_refl _, Nat.le_refl _⟩ (fun H locs hP hD hS => ?_)
        refine lv_if_eq (tgt := 74) hx hb dX0_readDigits_35 (by decide) (fun c_3 => ?_) (fun c_3 => ?_)
        · skip
          refine lv_aload_n hx hb dX0_readDigits_74 rfl (lv_at hl 0 rfl) ?_
          refine lv_aload_n hx hb dX0_readDigits_75 rfl (lv_at hl 0 rfl) ?_
          refine va_get (D := G.1) (ci := 4) (v := .int y0_11) (C := RX0) (T := TX0) (N := 13) hx hb hts in_X0 hown hK hP 0 rfl rfl 11 (by decide) (hts _ k_fl_X0_80) (fun _ h9 => h9) rfl dX0_readDigits_76 ?_
          refine lv_aload_n hx hb dX0_readDigits_79 rfl (lv_at hl 0 rfl) ?_
          refine va_get (D := G.1) (ci := 4) (v := .int ts) (C := RX0) (T := TX0) (N := 13) hx hb hts in_X0 hown hK hP 0 rfl rfl 10 (by decide) (hts _ k_fl_X0_123) (fun _ h9 => h9) rfl dX0_readDigits_80 ?_
          refine lv_isub hx hb dX0_readDigits_83 ?_
          refine lv_bipush (v := 6) hx hb dX0_readDigits_84 (by decide) ?_
          refine lv_icmp_le (tgt := 93) hx hb dX0_readDigits_86 (by decide) (fun c_4 => ?_) (fun c_4 => ?_)
          · skip
            refine lv_iconst (v := 2) hx hb dX0_readDigits_93 (by decide) ?_
            refine va_put (D := G.1) (ci := 4) (v := .int 2) (ty := .int) (C := RX0) (T := TX0) (N := 13) hx hb hts in_X0 tyX0 tyX0_ok nmX0 hown hK hP hD hS 0 rfl rfl 9 (by decide) (hts _ k_fl_X0_38) (fun _ h9 => h9) rfl (by decide +kernel) rfl rfl (Nat.le_of_ble_eq_true rfl) dX0_readDigits_94 (fun H locs hP hD hS => ?_)
            replace hP : va_P G.1 vwCl [(a0, .inr (4, [.ref a1, .int len, .int ec, .int ep, .ref a2, .ref a3, .int wc, .int sl, .int pl, .int 2, .int ts, .int y0_11, .int y0_12])), (a1, .inl (G.2.1.1, 600, .inl text))] H := hP
            replace hD : va_D A [(a0, .inr (4, [.ref a1, .int len, .int ec, .int ep, .ref a2, .ref a3, .int wc, .int sl, .int pl, .int 2, .int ts, .int y0_11, .int y0_12])), (a1, .inl (G.2.1.1, 600, .inl text))] := hD
            have ef : (f_X0_readDigits len ki ts text) = (2, y0_11, y0_12) := (hO.trans (((if_neg c_1).trans ((if_pos c_3).trans (if_pos c_4)))))
            exact gRetV F hr hlocks hK hP hD hS rfl (by rw [ef]) (Nat.le_of_ble_eq_true rfl) (Nat.le_of_ble_eq_true rfl) dX0_readDigits_97
          · skip
            refine lv_iconst (v := 3) hx hb dX0_readDigits_89 (by decide) ?_
            refine lv_goto (tgt := 94) hx hb dX0_readDigits_90 (by decide) ?_
            refine va_put (D := G.1) (ci := 4) (v := .int 3) (ty := .int) (C := RX0) (T := TX0) (N := 13) hx hb hts in_X0 tyX0 tyX0_ok nmX0 hown hK hP hD hS 0 rfl rfl 9 (by decide) (hts _ k_fl_X0_38) (fun _ h9 => h9) rfl (by decide +kernel) rfl rfl (Nat.le_of_ble_eq_true rfl) dX0_readDigits_94 (fun H locs hP hD hS => ?_)
            replace hP : va_P G.1 vwCl [(a0, .inr (4, [.ref a1, .int len, .int ec, .int ep, .ref a2, .ref a3, .int wc, .int sl, .int pl, .int 3, .int ts, .int y0_11, .int y0_12])), (a1, .inl (G.2.1.1, 600, .inl text))] H := hP
            replace hD : va_D A [(a0, .inr (4, [.ref a1, .int len, .int ec, .int ep, .ref a2, .ref a3, .int wc, .int sl, .int pl, .int 3, .int ts, .int y0_11, .int y0_12])), (a1, .inl (G.2.1.1, 600, .inl text))] := hD
            have ef : (f_X0_readDigits len ki ts text) = (3, y0_11, y0_12) := (hO.trans (((if_neg c_1).trans ((if_pos c_3).trans (if_neg c_4)))))
            exact gRetV F hr hlocks hK hP hD hS rfl (by rw [ef]) (Nat.le_of_ble_eq_true rfl) (Nat.le_of_ble_eq_true rfl) dX0_readDigits_97
        · skip
          refine lv_aload_n hx hb dX0_readDigits_38 rfl (lv_at hl 0 rfl) ?_
          refine lv_bipush (v := 10) hx hb dX0_readDigits_39 (by decide) ?_
          refine lv_aload_n hx hb dX0_readDigits_41 rfl (lv_at hl 0 rfl) ?_
          refine va_get (D := G.1) (ci := 4) (v := .int y0_12) (C := RX0) (T := TX0) (N := 13) hx hb hts in_X0 hown hK hP 0 rfl rfl 12 (by decide) (hts _ k_fl_X0_113) (fun _ h9 => h9) rfl dX0_readDigits_42 ?_
          refine lv_imul hx hb dX0_readDigits_45 ?_
          refine lv_aload_n hx hb dX0_readDigits_46 rfl (lv_at hl 0 rfl) ?_
          refine lv_aload_n hx hb dX0_readDigits_47 rfl (lv_at hl 0 rfl) ?_
          refine va_get (D := G.1) (ci := 4) (v := .int y0_11) (C := RX0) (T := TX0) (N := 13) hx hb hts in_X0 hown hK hP 0 rfl rfl 11 (by decide) (hts _ k_fl_X0_80) (fun _ h9 => h9) rfl dX0_readDigits_48 ?_
          refine gV (As := [.int y0_11]) (rest := [.int (10 * y0_12), .ref a0]) (wr := []) (ws' := [(a0, .inr (4, [.ref a1, .int len, .int ec, .int ep, .ref a2, .ref a3, .int wc, .int sl, .int pl, .int ki, .int ts, .int y0_11, .int y0_12])), (a1, .inl (G.2.1.1, 600, .inl text))]) F (c_X0_byteAt l G a0 a1 a2 a3 len ec ep wc sl pl ki ts y0_11 y0_12 text y0_11) okV_X0_byteAt k_ml_X0_134 rfl rfl ⟨Nat.le_of_ble_eq_true rfl, Nat.le_of_ble_eq_true rfl⟩ hN hK hP hD hS hA [0, 1] [] [0, 1] (by decide) rfl rfl (by decide) (by decide) (by decide) rfl (q0 := 0) rfl rfl rfl rfl hl.1 (Nat.le_of_ble_eq_true rfl) dX0_readDigits_51 ⟨Nat.le_refl _, Nat.le_refl _⟩ (fun H locs hP hD hS => ?_)
          refine lv_iadd hx hb dX0_readDigits_54 ?_
          refine lv_bipush (v := 48) hx hb dX0_readDigits_55 (by decide) ?_
          refine lv_isub hx hb dX0_readDigits_57 ?_
          refine va_put (D := G.1) (ci := 4) (v := .int (((10 * y0_12) + (f_X0_byteAt len text y0_11)) - 48)) (ty := .int) (C := RX0) (T := TX0) (N := 13) hx hb hts in_X0 tyX0 tyX0_ok nmX0 hown hK hP hD hS 0 rfl rfl 12 (by decide) (hts _ k_fl_X0_113) (fun _ h9 => h9) rfl (by decide +kernel) rfl rfl (Nat.le_of_ble_eq_true rfl) dX0_readDigits_58 (fun H locs hP hD hS => ?_)
          replace hP : va_P G.1 vwCl [(a0, .inr (4, [.ref a1, .int len, .int ec, .int ep, .ref a2, .ref a3, .int wc, .int sl, .int pl, .int ki, .int ts, .int y0_11, .int (((10 * y0_12) + (f_X0_byteAt len text y0_11)) - 48)])), (a1, .inl (G.2.1.1, 600, .inl text))] H := hP
          replace hD : va_D A [(a0, .inr (4, [.ref a1, .int len, .int ec, .int ep, .ref a2, .ref a3, .int wc, .int sl, .int pl, .int ki, .int ts, .int y0_11, .int (((10 * y0_12) + (f_X0_byteAt len text y0_11)) - 48)])), (a1, .inl (G.2.1.1, 600, .inl text))] := hD
          refine lv_aload_n hx hb dX0_readDigits_61 rfl (lv_at hl 0 rfl) ?_
          refine lv_dup hx hb dX0_readDigits_62 rfl ?_
          refine va_get (D := G.1) (ci := 4) (v := .int y0_11) (C := RX0) (T := TX0) (N := 13) hx hb hts in_X0 hown hK hP 0 rfl rfl 11 (by decide) (hts _ k_fl_X0_80) (fun _ h9 => h9) rfl dX0_readDigits_63 ?_
          refine lv_iconst (v := 1) hx hb dX0_readDigits_66 (by decide) ?_
          refine lv_iadd hx hb dX0_readDigits_67 ?_
          refine va_put (D := G.1) (ci := 4) (v := .int (y0_11 + 1)) (ty := .int) (C := RX0) (T := TX0) (N := 13) hx hb hts in_X0 tyX0 tyX0_ok nmX0 hown hK hP hD hS 0 rfl rfl 11 (by decide) (hts _ k_fl_X0_80) (fun _ h9 => h9) rfl (by decide +kernel) rfl rfl (Nat.le_of_ble_eq_true rfl) dX0_readDigits_68 (fun H locs hP hD hS => ?_)
          replace hP : va_P G.1 vwCl [(a0, .inr (4, [.ref a1, .int len, .int ec, .int ep, .ref a2, .ref a3, .int wc, .int sl, .int pl, .int ki, .int ts, .int (y0_11 + 1), .int (((10 * y0_12) + (f_X0_byteAt len text y0_11)) - 48)])), (a1, .inl (G.2.1.1, 600, .inl text))] H := hP
          replace hD : va_D A [(a0, .inr (4, [.ref a1, .int len, .int ec, .int ep, .ref a2, .ref a3, .int wc, .int sl, .int pl, .int ki, .int ts, .int (y0_11 + 1), .int (((10 * y0_12) + (f_X0_byteAt len text y0_11)) - 48)])), (a1, .inl (G.2.1.1, 600, .inl text))] := hD
          refine lv_goto (tgt := 13) hx hb dX0_readDigits_71 (by decide) ?_
          exact ih (y0_11 + 1) (((10 * y0_12) + (f_X0_byteAt len text y0_11)) - 48) trivial (tok_mu c_1 hn) (hO.trans (((if_neg c_1).trans (if_neg c_3)))) _ _ hP hD hS ls (lv_sub hl [0] rfl)
  exact loop_13 ((len.toInt - ts.toInt).toNat + 1) ts 0 trivial (by (try rw [vp_in_iff]); omega) rfl _ _ hP hD hS ls (lv_sub hl [0] rfl)
theorem okV_X0_readDigits : gOkV yX0_readDigits cX0_readDigits 1 none 0 := ⟨⟨k_im_X0_readDigits, k_se_X0_readDigits, k_in_X0, k_cd_X0_readDigits⟩, by decide, by decide, by decide +kernel⟩
def wl_X0_readToken (len : Int32) (ki : Int32) (te : Int32) (nu : Int32) (text : Nat → Int32) : Nat → Int32 → Int32 × Int32 × Int32 × Int32
  | 0, _ => (ki, te, te, nu)
  | n + 1, y0_10 =>
    if len ≤ y0_10 then
      if y0_10 < len then
        if (f_X0_isLetter (f_X0_byteAt len text y0_10)) = 0 then
          if (f_X0_isDigit (f_X0_byteAt len text y0_10)) = 0 then
            if (f_X0_byteAt len text y0_10) = 46 then
              ((f_X0_byteAt len text y0_10), y0_10, (f_J9_min_7cf53 (y0_10 + 1) len), nu)
            else
              if (f_X0_byteAt len text y0_10) = 59 then
                ((f_X0_byteAt len text y0_10), y0_10, (f_J9_min_7cf53 (y0_10 + 1) len), nu)
              else
                if (f_X0_byteAt len text y0_10) = 45 then
                  ((f_X0_byteAt len text y0_10), y0_10, (f_J9_min_7cf53 (y0_10 + 1) len), nu)
                else
                  (3, y0_10, (f_J9_min_7cf53 (y0_10 + 1) len), nu)
          else
            let t8 := (f_X0_readDigits len ki y0_10 text)
            (t8.1, y0_10, t8.2.1, t8.2.2)
        else
          (1, y0_10, (f_X0_readLetters len (f_J9_min_7cf53 (y0_10 + 1) len) text), nu)
      else
        (0, y0_10, (f_J9_min_7cf53 (y0_10 + 1) len), nu)
    else
      if (f_X0_isBlank (f_X0_byteAt len text y0_10)) = 0 then
        if y0_10 < len then
          if (f_X0_isLetter (f_X0_byteAt len text y0_10)) = 0 then
            if (f_X0_isDigit (f_X0_byteAt len text y0_10)) = 0 then
              if (f_X0_byteAt len text y0_10) = 46 then
                ((f_X0_byteAt len text y0_10), y0_10, (f_J9_min_7cf53 (y0_10 + 1) len), nu)
              else
                if (f_X0_byteAt len text y0_10) = 59 then
                  ((f_X0_byteAt len text y0_10), y0_10, (f_J9_min_7cf53 (y0_10 + 1) len), nu)
                else
                  if (f_X0_byteAt len text y0_10) = 45 then
                    ((f_X0_byteAt len text y0_10), y0_10, (f_J9_min_7cf53 (y0_10 + 1) len), nu)
                  else
                    (3, y0_10, (f_J9_min_7cf53 (y0_10 + 1) len), nu)
            else
              let t16 := (f_X0_readDigits len ki y0_10 text)
              (t16.1, y0_10, t16.2.1, t16.2.2)
          else
            (1, y0_10, (f_X0_readLetters len (f_J9_min_7cf53 (y0_10 + 1) len) text), nu)
        else
          (0, y0_10, (f_J9_min_7cf53 (y0_10 + 1) len), nu)
      else
        wl_X0_readToken len ki te nu text n (y0_10 + 1)
def f_X0_readToken (len : Int32) (ki : Int32) (te : Int32) (nu : Int32) (text : Nat → Int32) : Int32 × Int32 × Int32 × Int32 :=
  (wl_X0_readToken len ki te nu text ((len.toInt - te.toInt).toNat + 1) te)
set_option maxRecDepth 100000 in
set_option maxHeartbeats 4000000 in
theorem c_X0_readToken (l : Launch) (G : gG) (a0 : Nat) (a1 : Nat) (a2 : Nat) (a3 : Nat) (len : Int32) (ec : Int32) (ep : Int32) (wc : Int32) (sl : Int32) (pl : Int32) (ki : Int32) (ts : Int32) (te : Int32) (nu : Int32) (text : Nat → Int32) : gM l G yX0_readToken cX0_readToken 2 none { frames := 2, cells := 0, slots := 0, locals := 41 } [.ref a0] [(a0, .inr (4, [.ref a1, .int len, .int ec, .int ep, .ref a2, .ref a3, .int wc, .int sl, .int pl, .int ki, .int ts, .int te, .int nu])), (a1, .inl (G.2.1.1, 600, .inl text))] none [(a0, .inr (4, [.ref a1, .int len, .int ec, .int ep, .ref a2, .ref a3, .int wc, .int sl, .int pl, .int ((f_X0_readToken len ki te nu text).1), .int ((f_X0_readToken len ki te nu text).2.1), .int ((f_X0_readToken len ki te nu text).2.2.1), .int ((f_X0_readToken len ki te nu text).2.2.2)])), (a1, .inl (G.2.1.1, 600, .inl text))] 0 0 := by
  refine gBegin (by decide +kernel) (Nat.le_of_ble_eq_true rfl) (fun p e s m args below meth c A F hr hlocks hname hN hK hP hD hA hS ls hl => ?_)
  obtain ⟨hx, hb, hml, hown, hts⟩ := id F
  replace hP : va_P G.1 vwCl [(a0, .inr (4, [.ref a1, .int len, .int ec, .int ep, .ref a2, .ref a3, .int wc, .int sl, .int pl, .int ki, .int ts, .int te, .int nu])), (a1, .inl (G.2.1.1, 600, .inl text))] s.heap := hP
  replace hl : lv_has ls 2 [(0, .ref a0)] := hl
  refine lv_aload_n hx hb dX0_readToken_0 rfl (lv_at hl 0 rfl) ?_
  refine lv_aload_n hx hb dX0_readToken_1 rfl (lv_at hl 0 rfl) ?_
  refine va_get (D := G.1) (ci := 4) (v := .int te) (C := RX0) (T := TX0) (N := 13) hx hb hts in_X0 hown hK hP 0 rfl rfl 11 (by decide) (hts _ k_fl_X0_80) (fun _ h9 => h9) rfl dX0_readToken_2 ?_
  refine va_put (D := G.1) (ci := 4) (v := .int te) (ty := .int) (C := RX0) (T := TX0) (N := 13) hx hb hts in_X0 tyX0 tyX0_ok nmX0 hown hK hP hD hS 0 rfl rfl 10 (by decide) (hts _ k_fl_X0_123) (fun _ h9 => h9) rfl (by decide +kernel) rfl rfl (Nat.le_of_ble_eq_true rfl) dX0_readToken_5 (fun H locs hP hD hS => ?_)
  replace hP : va_P G.1 vwCl [(a0, .inr (4, [.ref a1, .int len, .int ec, .int ep, .ref a2, .ref a3, .int wc, .int sl, .int pl, .int ki, .int te, .int te, .int nu])), (a1, .inl (G.2.1.1, 600, .inl text))] H := hP
  replace hD : va_D A [(a0, .inr (4, [.ref a1, .int len, .int ec, .int ep, .ref a2, .ref a3, .int wc, .int sl, .int pl, .int ki, .int te, .int te, .int nu])), (a1, .inl (G.2.1.1, 600, .inl text))] := hD
  have loop_8 : ∀ (fu : Nat) (y0_10 : Int32), (True) → (len.toInt - y0_10.toInt).toNat < fu → (f_X0_readToken len ki te nu text) = wl_X0_readToken len ki te nu text fu y0_10 → ∀ (H : Heap) (locs : List Loc), va_P G.1 vwCl [(a0, .inr (4, [.ref a1, .int len, .int ec, .int ep, .ref a2, .ref a3, .int wc, .int sl, .int pl, .int ki, .int y0_10, .int te, .int nu])), (a1, .inl (G.2.1.1, 600, .inl text))] H → va_D A [(a0, .inr (4, [.ref a1, .int len, .int ec, .int ep, .ref a2, .ref a3, .int wc, .int sl, .int pl, .int ki, .int y0_10, .int te, .int nu])), (a1, .inl (G.2.1.1, 600, .inl text))] → va_S A s.heap H locs → ∀ ls : Array Slot, lv_has ls 2 [(0, .ref a0)] → W p l e { frames := 2, cells := 0, slots := 0, locals := 41 } s m args below meth c H locs 0 0 (MQ below (gQ G none [(a0, .inr (4, [.ref a1, .int len, .int ec, .int ep, .ref a2, .ref a3, .int wc, .int sl, .int pl, .int ((f_X0_readToken len ki te nu text).1), .int ((f_X0_readToken len ki te nu text).2.1), .int ((f_X0_readToken len ki te nu text).2.2.1), .int ((f_X0_readToken len ki te nu text).2.2.2)])), (a1, .inl (G.2.1.1, 600, .inl text))] A) args s 0 0 A) (F0 m 8 ls []) := by
    intro fu
    induction fu with
    | zero =>
      intro y0_10 hI hn
      exact absurd hn (Nat.not_lt_zero _)
    | succ fu ih =>
      intro y0_10 hI hn hO H locs hP hD hS ls hl
      refine lv_aload_n hx hb dX0_readToken_8 rfl (lv_at hl 0 rfl) ?_
      refine va_get (D := G.1) (ci := 4) (v := .int y0_10) (C := RX0) (T := TX0) (N := 13) hx hb hts in_X0 hown hK hP 0 rfl rfl 10 (by decide) (hts _ k_fl_X0_123) (fun _ h9 => h9) rfl dX0_readToken_9 ?_
      refine lv_aload_n hx hb dX0_readToken_12 rfl (lv_at hl 0 rfl) ?_
      refine va_get (D := G.1) (ci := 4) (v := .int len) (C := RX0) (T := TX0) (N := 13) hx hb hts in_X0 hown hK hP 0 rfl rfl 1 (by decide) (hts _ k_fl_X0_29) (fun _ h9 => h9) rfl dX0_readToken_13 ?_
      refine lv_icmp_ge (tgt := 46) hx hb dX0_readToken_16 (by decide) (fun c_1 => ?_) (fun c_1 => ?_)
      · skip
        refine lv_aload_n hx hb dX0_readToken_46 rfl (lv_at hl 0 rfl) ?_
        refine lv_aload_n hx hb dX0_readToken_47 rfl (lv_at hl 0 rfl) ?_
        refine va_get (D := G.1) (ci := 4) (v := .int y0_10) (C := RX0) (T := TX0) (N := 13) hx hb hts in_X0 hown hK hP 0 rfl rfl 10 (by decide) (hts _ k_fl_X0_123) (fun _ h9 => h9) rfl dX0_readToken_48 ?_
        refine gV (As := [.int y0_10]) (rest := []) (wr := []) (ws' := [(a0, .inr (4, [.ref a1, .int len, .int ec, .int ep, .ref a2, .ref a3, .int wc, .int sl, .int pl, .int ki, .int y0_10, .int te, .int nu])), (a1, .inl (G.2.1.1, 600, .inl text))]) F (c_X0_byteAt l G a0 a1 a2 a3 len ec ep wc sl pl ki y0_10 te nu text y0_10) okV_X0_byteAt k_ml_X0_134 rfl rfl ⟨Nat.le_of_ble_eq_true rfl, Nat.le_of_ble_eq_true rfl⟩ hN hK hP hD hS hA [0, 1] [] [0, 1] (by decide) rfl rfl (by decide) (by decide) (by decide) rfl (q0 := 0) rfl rfl rfl rfl hl.1 (Nat.le_of_ble_eq_true rfl) dX0_readToken_51 ⟨Nat.le_refl _, Nat.le_refl _⟩ (fun H locs hP hD hS => ?_)
        refine lv_istore_n (lv' := [(1, .int (f_X0_byteAt len text y0_10)), (0, .ref a0)]) hx hb dX0_readToken_54 rfl hl (by decide) rfl (fun ls hl => ?_)
        refine lv_aload_n hx hb dX0_readToken_55 rfl (lv_at hl 1 rfl) ?_
        refine lv_aload_n hx hb dX0_readToken_56 rfl (lv_at hl 1 rfl) ?_
        refine va_get (D := G.1) (ci := 4) (v := .int y0_10) (C := RX0) (T := TX0) (N := 13) hx hb hts in_X0 hown hK hP 0 rfl rfl 10 (by decide) (hts _ k_fl_X0_123) (fun _ h9 => h9) rfl dX0_readToken_57 ?_
        refine lv_iconst (v := 1) hx hb dX0_readToken_60 (by decide) ?_
        refine lv_iadd hx hb dX0_readToken_61 ?_
        refine lv_aload_n hx hb dX0_readToken_62 rfl (lv_at hl 1 rfl) ?_
        refine va_get (D := G.1) (ci := 4) (v := .int len) (C := RX0) (T := TX0) (N := 13) hx hb hts in_X0 hown hK hP 0 rfl rfl 1 (by decide) (hts _ k_fl_X0_29) (fun _ h9 => h9) rfl dX0_readToken_63 ?_
        refine gS (As := [.int (y0_10 + 1), .int len]) (rest := [.ref a0]) (wr := [(a0, .inr (4, [.ref a1, .int len, .int ec, .int ep, .ref a2, .ref a3, .int wc, .int sl, .int pl, .int ki, .int y0_10, .int te, .int nu])), (a1, .inl (G.2.1.1, 600, .inl text))]) (ws' := [(a0, .inr (4, [.ref a1, .int len, .int ec, .int ep, .ref a2, .ref a3, .int wc, .int sl, .int pl, .int ki, .int y0_10, .int te, .int nu])), (a1, .inl (G.2.1.1, 600, .inl text))]) F (c_J9_min_7cf53 l G (y0_10 + 1) len) okS_J9_min_7cf53 k_ml_X0_144 rfl rfl ⟨Nat.le_of_ble_eq_true rfl, Nat.le_of_ble_eq_true rfl⟩ hN hK hP hD hS hA [] [0, 1] [0, 1] (by decide) rfl rfl (by decide) (by decide) (by decide) rfl rfl rfl hl.1 (Nat.le_of_ble_eq_true rfl) dX0_readToken_66 ⟨Nat.le_refl _, Nat.le_refl _⟩ (fun H locs hP hD hS => ?_)
        refine va_put (D := G.1) (ci := 4) (v := .int (f_J9_min_7cf53 (y0_10 + 1) len)) (ty := .int) (C := RX0) (T := TX0) (N := 13) hx hb hts in_X0 tyX0 tyX0_ok nmX0 hown hK hP hD hS 0 rfl rfl 11 (by decide) (hts _ k_fl_X0_80) (fun _ h9 => h9) rfl (by decide +kernel) rfl rfl (Nat.le_of_ble_eq_true rfl) dX0_readToken_69 (fun H locs hP hD hS => ?_)
        replace hP : va_P G.1 vwCl [(a0, .inr (4, [.ref a1, .int len, .int ec, .int ep, .ref a2, .ref a3, .int wc, .int sl, .int pl, .int ki, .int y0_10, .int (f_J9_min_7cf53 (y0_10 + 1) len), .int nu])), (a1, .inl (G.2.1.1, 600, .inl text))] H := hP
        replace hD : va_D A [(a0, .inr (4, [.ref a1, .int len, .int ec, .int ep, .ref a2, .ref a3, .int wc, .int sl, .int pl, .int ki, .int y0_10, .int (f_J9_min_7cf53 (y0_10 + 1) len), .int nu])), (a1, .inl (G.2.1.1, 600, .inl text))] := hD
        refine lv_aload_n hx hb dX0_readToken_72 rfl (lv_at hl 1 rfl) ?_
        refine va_get (D := G.1) (ci := 4) (v := .int y0_10) (C := RX0) (T := TX0) (N := 13) hx hb hts in_X0 hown hK hP 0 rfl rfl 10 (by decide) (hts _ k_fl_X0_123) (fun _ h9 => h9) rfl dX0_readToken_73 ?_
        refine lv_aload_n hx hb dX0_readToken_76 rfl (lv_at hl 1 rfl) ?_
        refine va_get (D := G.1) (ci := 4) (v := .int len) (C := RX0) (T := TX0) (N := 13) hx hb hts in_X0 hown hK hP 0 rfl rfl 1 (by decide) (hts _ k_fl_X0_29) (fun _ h9 => h9) rfl dX0_readToken_77 ?_
        refine lv_icmp_lt (tgt := 91) hx hb dX0_readToken_80 (by decide) (fun c_2 => ?_) (fun c_2 => ?_)
        · skip
          refine lv_iload_n hx hb dX0_readToken_91 rfl (lv_at hl 0 rfl) ?_
          refine gS (As := [.int (f_X0_byteAt len text y0_10)]) (rest := []) (wr := [(a0, .inr (4, [.ref a1, .int len, .int ec, .int ep, .ref a2, .ref a3, .int wc, .int sl, .int pl, .int ki, .int y0_10, .int (f_J9_min_7cf53 (y0_10 + 1) len), .int nu])), (a1, .inl (G.2.1.1, 600, .inl text))]) (ws' := [(a0, .inr (4, [.ref a1, .int len, .int ec, .int ep, .ref a2, .ref a3, .int wc, .int sl, .int pl, .int ki, .int y0_10, .int (f_J9_min_7cf53 (y0_10 + 1) len), .int nu])), (a1, .inl (G.2.1.1, 600, .inl text))]) F (c_X0_isLetter l G (f_X0_byteAt len text y0_10)) okS_X0_isLetter k_ml_X0_149 rfl rfl ⟨Nat.le_of_ble_eq_true rfl, Nat.le_of_ble_eq_true rfl⟩ hN hK hP hD hS hA [] [0, 1] [0, 1] (by decide) rfl rfl (by decide) (by decide) (by decide) rfl rfl rfl hl.1 (Nat.le_of_ble_eq_true rfl) dX0_readToken_92 ⟨Nat.le_refl _, Nat.le_refl _⟩ (fun H locs hP hD hS => ?_)
          refine lv_if_eq (tgt := 110) hx hb dX0_readToken_95 (by decide) (fun c_3 => ?_) (fun c_3 => ?_)
          · skip
            refine lv_iload_n hx hb dX0_readToken_110 rfl (lv_at hl 0 rfl) ?_
            refine gS (As := [.int (f_X0_byteAt len text y0_10)]) (rest := []) (wr := [(a0, .inr (4, [.ref a1, .int len, .int ec, .int ep, .ref a2, .ref a3, .int wc, .int sl, .int pl, .int ki, .int y0_10, .int (f_J9_min_7cf53 (y0_10 + 1) len), .int nu])), (a1, .inl (G.2.1.1, 600, .inl text))]) (ws' := [(a0, .inr (4, [.ref a1, .int len, .int ec, .int ep, .ref a2, .ref a3, .int wc, .int sl, .int pl, .int ki, .int y0_10, .int (f_J9_min_7cf53 (y0_10 + 1) len), .int nu])), (a1, .inl (G.2.1.1, 600, .inl text))]) F (c_X0_isDigit l G (f_X0_byteAt len text y0_10)) okS_X0_isDigit k_ml_X0_155 rfl rfl ⟨Nat.le_of_ble_eq_true rfl, Nat.le_of_ble_eq_true rfl⟩ hN hK hP hD hS hA [] [0, 1] [0, 1] (by decide) rfl rfl (by decide) (by decide) (by decide) rfl rfl rfl hl.1 (Nat.le_of_ble_eq_true rfl) dX0_readToken_111 ⟨Nat.le_refl _, Nat.le_refl _⟩ (fun H locs hP hD hS => ?_)
            refine lv_if_eq (tgt := 124) hx hb dX0_readToken_114 (by decide) (fun c_4 => ?_) (fun c_4 => ?_)
            · skip
              refine lv_aload_n hx hb dX0_readToken_124 rfl (lv_at hl 1 rfl) ?_
              refine lv_iload_n hx hb dX0_readToken_125 rfl (lv_at hl 0 rfl) ?_
              refine lv_bipush (v := 46) hx hb dX0_readToken_126 (by decide) ?_
              refine lv_icmp_eq (tgt := 143) hx hb dX0_readToken_128 (by decide) (fun c_5 => ?_) (fun c_5 => ?_)
              · skip
                refine lv_iload_n hx hb dX0_readToken_143 rfl (lv_at hl 0 rfl) ?_
                refine lv_goto (tgt := 148) hx hb dX0_readToken_144 (by decide) ?_
                refine va_put (D := G.1) (ci := 4) (v := .int (f_X0_byteAt len text y0_10)) (ty := .int) (C := RX0) (T := TX0) (N := 13) hx hb hts in_X0 tyX0 tyX0_ok nmX0 hown hK hP hD hS 0 rfl rfl 9 (by decide) (hts _ k_fl_X0_38) (fun _ h9 => h9) rfl (by decide +kernel) rfl rfl (Nat.le_of_ble_eq_true rfl) dX0_readToken_148 (fun H locs hP hD hS => ?_)
                replace hP : va_P G.1 vwCl [(a0, .inr (4, [.ref a1, .int len, .int ec, .int ep, .ref a2, .ref a3, .int wc, .int sl, .int pl, .int (f_X0_byteAt len text y0_10), .int y0_10, .int (f_J9_min_7cf53 (y0_10 + 1) len), .int nu])), (a1, .inl (G.2.1.1, 600, .inl text))] H := hP
                replace hD : va_D A [(a0, .inr (4, [.ref a1, .int len, .int ec, .int ep, .ref a2, .ref a3, .int wc, .int sl, .int pl, .int (f_X0_byteAt len text y0_10), .int y0_10, .int (f_J9_min_7cf53 (y0_10 + 1) len), .int nu])), (a1, .inl (G.2.1.1, 600, .inl text))] := hD
                have ef : (f_X0_readToken len ki te nu text) = ((f_X0_byteAt len text y0_10), y0_10, (f_J9_min_7cf53 (y0_10 + 1) len), nu) := (hO.trans (((if_pos c_1).trans ((if_pos c_2).trans ((if_pos c_3).trans ((if_pos c_4).trans (if_pos c_5)))))))
                exact gRetV F hr hlocks hK hP hD hS rfl (by rw [ef]) (Nat.le_of_ble_eq_true rfl) (Nat.le_of_ble_eq_true rfl) dX0_readToken_151
              · skip
                refine lv_iload_n hx hb dX0_readToken_131 rfl (lv_at hl 0 rfl) ?_
                refine lv_bipush (v := 59) hx hb dX0_readToken_132 (by decide) ?_
                refine lv_icmp_eq (tgt := 143) hx hb dX0_readToken_134 (by decide) (fun c_6 => ?_) (fun c_6 => ?_)
                · skip
                  refine lv_iload_n hx hb dX0_readToken_143 rfl (lv_at hl 0 rfl) ?_
                  refine lv_goto (tgt := 148) hx hb dX0_readToken_144 (by decide) ?_
                  refine va_put (D := G.1) (ci := 4) (v := .int (f_X0_byteAt len text y0_10)) (ty := .int) (C := RX0) (T := TX0) (N := 13) hx hb hts in_X0 tyX0 tyX0_ok nmX0 hown hK hP hD hS 0 rfl rfl 9 (by decide) (hts _ k_fl_X0_38) (fun _ h9 => h9) rfl (by decide +kernel) rfl rfl (Nat.le_of_ble_eq_true rfl) dX0_readToken_148 (fun H locs hP hD hS => ?_)
                  replace hP : va_P G.1 vwCl [(a0, .inr (4, [.ref a1, .int len, .int ec, .int ep, .ref a2, .ref a3, .int wc, .int sl, .int pl, .int (f_X0_byteAt len text y0_10), .int y0_10, .int (f_J9_min_7cf53 (y0_10 + 1) len), .int nu])), (a1, .inl (G.2.1.1, 600, .inl text))] H := hP
                  replace hD : va_D A [(a0, .inr (4, [.ref a1, .int len, .int ec, .int ep, .ref a2, .ref a3, .int wc, .int sl, .int pl, .int (f_X0_byteAt len text y0_10), .int y0_10, .int (f_J9_min_7cf53 (y0_10 + 1) len), .int nu])), (a1, .inl (G.2.1.1, 600, .inl text))] := hD
                  have ef : (f_X0_readToken len ki te nu text) = ((f_X0_byteAt len text y0_10), y0_10, (f_J9_min_7cf53 (y0_10 + 1) len), nu) := (hO.trans (((if_pos c_1).trans ((if_pos c_2).trans ((if_pos c_3).trans ((if_pos c_4).trans ((if_neg c_5).trans (if_pos c_6))))))))
                  exact gRetV F hr hlocks hK hP hD hS rfl (by rw [ef]) (Nat.le_of_ble_eq_true rfl) (Nat.le_of_ble_eq_true rfl) dX0_readToken_151
                · skip
                  refine lv_iload_n hx hb dX0_readToken_137 rfl (lv_at hl 0 rfl) ?_
                  refine lv_bipush (v := 45) hx hb dX0_readToken_138 (by decide) ?_
                  refine lv_icmp_ne (tgt := 147) hx hb dX0_readToken_140 (by decide) (fun c_7 => ?_) (fun c_7 => ?_)
                  · skip
                    refine lv_iconst (v := 3) hx hb dX0_readToken_147 (by decide) ?_
                    refine va_put (D := G.1) (ci := 4) (v := .int 3) (ty := .int) (C := RX0) (T := TX0) (N := 13) hx hb hts in_X0 tyX0 tyX0_ok nmX0 hown hK hP hD hS 0 rfl rfl 9 (by decide) (hts _ k_fl_X0_38) (fun _ h9 => h9) rfl (by decide +kernel) rfl rfl (Nat.le_of_ble_eq_true rfl) dX0_readToken_148 (fun H locs hP hD hS => ?_)
                    replace hP : va_P G.1 vwCl [(a0, .inr (4, [.ref a1, .int len, .int ec, .int ep, .ref a2, .ref a3, .int wc, .int sl, .int pl, .int 3, .int y0_10, .int (f_J9_min_7cf53 (y0_10 + 1) len), .int nu])), (a1, .inl (G.2.1.1, 600, .inl text))] H := hP
                    replace hD : va_D A [(a0, .inr (4, [.ref a1, .int len, .int ec, .int ep, .ref a2, .ref a3, .int wc, .int sl, .int pl, .int 3, .int y0_10, .int (f_J9_min_7cf53 (y0_10 + 1) len), .int nu])), (a1, .inl (G.2.1.1, 600, .inl text))] := hD
                    have ef : (f_X0_readToken len ki te nu text) = (3, y0_10, (f_J9_min_7cf53 (y0_10 + 1) len), nu) := (hO.trans (((if_pos c_1).trans ((if_pos c_2).trans ((if_pos c_3).trans ((if_pos c_4).trans ((if_neg c_5).trans ((if_neg c_6).trans (if_neg c_7)))))))))
                    exact gRetV F hr hlocks hK hP hD hS rfl (by rw [ef]) (Nat.le_of_ble_eq_true rfl) (Nat.le_of_ble_eq_true rfl) dX0_readToken_151
                  · skip
                    refine lv_iload_n hx hb dX0_readToken_143 rfl (lv_at hl 0 rfl) ?_
                    refine lv_goto (tgt := 148) hx hb dX0_readToken_144 (by decide) ?_
                    refine va_put (D := G.1) (ci := 4) (v := .int (f_X0_byteAt len text y0_10)) (ty := .int) (C := RX0) (T := TX0) (N := 13) hx hb hts in_X0 tyX0 tyX0_ok nmX0 hown hK hP hD hS 0 rfl rfl 9 (by decide) (hts _ k_fl_X0_38) (fun _ h9 => h9) rfl (by decide +kernel) rfl rfl (Nat.le_of_ble_eq_true rfl) dX0_readToken_148 (fun H locs hP hD hS => ?_)
                    replace hP : va_P G.1 vwCl [(a0, .inr (4, [.ref a1, .int len, .int ec, .int ep, .ref a2, .ref a3, .int wc, .int sl, .int pl, .int (f_X0_byteAt len text y0_10), .int y0_10, .int (f_J9_min_7cf53 (y0_10 + 1) len), .int nu])), (a1, .inl (G.2.1.1, 600, .inl text))] H := hP
                    replace hD : va_D A [(a0, .inr (4, [.ref a1, .int len, .int ec, .int ep, .ref a2, .ref a3, .int wc, .int sl, .int pl, .int (f_X0_byteAt len text y0_10), .int y0_10, .int (f_J9_min_7cf53 (y0_10 + 1) len), .int nu])), (a1, .inl (G.2.1.1, 600, .inl text))] := hD
                    have ef : (f_X0_readToken len ki te nu text) = ((f_X0_byteAt len text y0_10), y0_10, (f_J9_min_7cf53 (y0_10 + 1) len), nu) := (hO.trans (((if_pos c_1).trans ((if_pos c_2).trans ((if_pos c_3).trans ((if_pos c_4).trans ((if_neg c_5).trans ((if_neg c_6).trans (if_pos c_7)))))))))
                    exact gRetV F hr hlocks hK hP hD hS rfl (by rw [ef]) (Nat.le_of_ble_eq_true rfl) (Nat.le_of_ble_eq_true rfl) dX0_readToken_151
            · skip
              refine lv_aload_n hx hb dX0_readToken_117 rfl (lv_at hl 1 rfl) ?_
              refine gV (As := []) (rest := []) (wr := []) (ws' := [(a0, .inr (4, [.ref a1, .int len, .int ec, .int ep, .ref a2, .ref a3, .int wc, .int sl, .int pl, .int ((f_X0_readDigits len ki y0_10 text).1), .int y0_10, .int ((f_X0_readDigits len ki y0_10 text).2.1), .int ((f_X0_readDigits len ki y0_10 text).2.2)])), (a1, .inl (G.2.1.1, 600, .inl text))]) F (c_X0_readDigits l G a0 a1 a2 a3 len ec ep wc sl pl ki y0_10 (f_J9_min_7cf53 (y0_10 + 1) len) nu text) okV_X0_readDigits k_ml_X0_158 rfl rfl ⟨Nat.le_of_ble_eq_true rfl, Nat.le_of_ble_eq_true rfl⟩ hN hK hP hD hS hA [0, 1] [] [0, 1] (by decide) rfl rfl (by decide) (by decide) (by decide) rfl (q0 := 0) rfl rfl rfl rfl hl.1 (Nat.le_of_ble_eq_true rfl) dX0_readToken_118 ⟨Nat.le_refl _, Nat.le_refl _⟩ (fun H locs hP hD hS => ?_)
              generalize et8 : (f_X0_readDigits len ki y0_10 text) = t8 at hP hD ⊢
              refine lv_goto (tgt := 151) hx hb dX0_readToken_121 (by decide) ?_
              have ef : (f_X0_readToken len ki te nu text) = (t8.1, y0_10, t8.2.1, t8.2.2) := (by subst et8; exact (hO.trans (((if_pos c_1).trans ((if_pos c_2).trans ((if_pos c_3).trans (if_neg c_4)))))))
              exact gRetV F hr hlocks hK hP hD hS rfl (by rw [ef]) (Nat.le_of_ble_eq_true rfl) (Nat.le_of_ble_eq_true rfl) dX0_readToken_151
          · skip
            refine lv_aload_n hx hb dX0_readToken_98 rfl (lv_at hl 1 rfl) ?_
            refine lv_iconst (v := 1) hx hb dX0_readToken_99 (by decide) ?_
            refine va_put (D := G.1) (ci := 4) (v := .int 1) (ty := .int) (C := RX0) (T := TX0) (N := 13) hx hb hts in_X0 tyX0 tyX0_ok nmX0 hown hK hP hD hS 0 rfl rfl 9 (by decide) (hts _ k_fl_X0_38) (fun _ h9 => h9) rfl (by decide +kernel) rfl rfl (Nat.le_of_ble_eq_true rfl) dX0_readToken_100 (fun H locs hP hD hS => ?_)
            replace hP : va_P G.1 vwCl [(a0, .inr (4, [.ref a1, .int len, .int ec, .int ep, .ref a2, .ref a3, .int wc, .int sl, .int pl, .int 1, .int y0_10, .int (f_J9_min_7cf53 (y0_10 + 1) len), .int nu])), (a1, .inl (G.2.1.1, 600, .inl text))] H := hP
            replace hD : va_D A [(a0, .inr (4, [.ref a1, .int len, .int ec, .int ep, .ref a2, .ref a3, .int wc, .int sl, .int pl, .int 1, .int y0_10, .int (f_J9_min_7cf53 (y0_10 + 1) len), .int nu])), (a1, .inl (G.2.1.1, 600, .inl text))] := hD
            refine lv_aload_n hx hb dX0_readToken_103 rfl (lv_at hl 1 rfl) ?_
            refine gV (As := []) (rest := []) (wr := []) (ws' := [(a0, .inr (4, [.ref a1, .int len, .int ec, .int ep, .ref a2, .ref a3, .int wc, .int sl, .int pl, .int 1, .int y0_10, .int (f_X0_readLetters len (f_J9_min_7cf53 (y0_10 + 1) len) text), .int nu])), (a1, .inl (G.2.1.1, 600, .inl text))]) F (c_X0_readLetters l G a0 a1 a2 a3 len ec ep wc sl pl 1 y0_10 (f_J9_min_7cf53 (y0_10 + 1) len) nu text) okV_X0_readLetters k_ml_X0_152 rfl rfl ⟨Nat.le_of_ble_eq_true rfl, Nat.le_of_ble_eq_true rfl⟩ hN hK hP hD hS hA [0, 1] [] [0, 1] (by decide) rfl rfl (by decide) (by decide) (by decide) rfl (q0 := 0) rfl rfl rfl rfl hl.1 (Nat.le_of_ble_eq_true rfl) dX0_readToken_104 ⟨Nat.le_refl _, Nat.le_refl _⟩ (fun H locs hP hD hS => ?_)
            refine lv_goto (tgt := 151) hx hb dX0_readToken_107 (by decide) ?_
            have ef : (f_X0_readToken len ki te nu text) = (1, y0_10, (f_X0_readLetters len (f_J9_min_7cf53 (y0_10 + 1) len) text), nu) := (hO.trans (((if_pos c_1).trans ((if_pos c_2).trans (if_neg c_3)))))
            exact gRetV F hr hlocks hK hP hD hS rfl (by rw [ef]) (Nat.le_of_ble_eq_true rfl) (Nat.le_of_ble_eq_true rfl) dX0_readToken_151
        · skip
          refine lv_aload_n hx hb dX0_readToken_83 rfl (lv_at hl 1 rfl) ?_
          refine lv_iconst (v := 0) hx hb dX0_readToken_84 (by decide) ?_
          refine va_put (D := G.1) (ci := 4) (v := .int 0) (ty := .int) (C := RX0) (T := TX0) (N := 13) hx hb hts in_X0 tyX0 tyX0_ok nmX0 hown hK hP hD hS 0 rfl rfl 9 (by decide) (hts _ k_fl_X0_38) (fun _ h9 => h9) rfl (by decide +kernel) rfl rfl (Nat.le_of_ble_eq_true rfl) dX0_readToken_85 (fun H locs hP hD hS => ?_)
          replace hP : va_P G.1 vwCl [(a0, .inr (4, [.ref a1, .int len, .int ec, .int ep, .ref a2, .ref a3, .int wc, .int sl, .int pl, .int 0, .int y0_10, .int (f_J9_min_7cf53 (y0_10 + 1) len), .int nu])), (a1, .inl (G.2.1.1, 600, .inl text))] H := hP
          replace hD : va_D A [(a0, .inr (4, [.ref a1, .int len, .int ec, .int ep, .ref a2, .ref a3, .int wc, .int sl, .int pl, .int 0, .int y0_10, .int (f_J9_min_7cf53 (y0_10 + 1) len), .int nu])), (a1, .inl (G.2.1.1, 600, .inl text))] := hD
          refine lv_goto (tgt := 151) hx hb dX0_readToken_88 (by decide) ?_
          have ef : (f_X0_readToken len ki te nu text) = (0, y0_10, (f_J9_min_7cf53 (y0_10 + 1) len), nu) := (hO.trans (((if_pos c_1).trans (if_neg c_2))))
          exact gRetV F hr hlocks hK hP hD hS rfl (by rw [ef]) (Nat.le_of_ble_eq_true rfl) (Nat.le_of_ble_eq_true rfl) dX0_readToken_151
      · skip
        refine lv_aload_n hx hb dX0_readToken_19 rfl (lv_at hl 0 rfl) ?_
        refine lv_aload_n hx hb dX0_readToken_20 rfl (lv_at hl 0 rfl) ?_
        refine va_get (D := G.1) (ci := 4) (v := .int y0_10) (C := RX0) (T := TX0) (N := 13) hx hb hts in_X0 hown hK hP 0 rfl rfl 10 (by decide) (hts _ k_fl_X0_123) (fun _ h9 => h9) rfl dX0_readToken_21 ?_
        refine gV (As := [.int y0_10]) (rest := []) (wr := []) (ws' := [(a0, .inr (4, [.ref a1, .int len, .int ec, .int ep, .ref a2, .ref a3, .int wc, .int sl, .int pl, .int ki, .int y0_10, .int te, .int nu])), (a1, .inl (G.2.1.1, 600, .inl text))]) F (c_X0_byteAt l G a0 a1 a2 a3 len ec ep wc sl pl ki y0_10 te nu text y0_10) okV_X0_byteAt k_ml_X0_134 rfl rfl ⟨Nat.le_of_ble_eq_true rfl, Nat.le_of_ble_eq_true rfl⟩ hN hK hP hD hS hA [0, 1] [] [0, 1] (by decide) rfl rfl (by decide) (by decide) (by decide) rfl (q0 := 0) rfl rfl rfl rfl hl.1 (Nat.le_of_ble_eq_true rfl) dX0_readToken_24 ⟨Nat.le_refl _, Nat.le_refl _⟩ (fun H locs hP hD hS => ?_)
        refine gS (As := [.int (f_X0_byteAt len text y0_10)]) (rest := []) (wr := [(a0, .inr (4, [.ref a1, .int len, .int ec, .int ep, .ref a2, .ref a3, .int wc, .int sl, .int pl, .int ki, .int y0_10, .int te, .int nu])), (a1, .inl (G.2.1.1, 600, .inl text))]) (ws' := [(a0, .inr (4, [.ref a1, .int len, .int ec, .int ep, .ref a2, .ref a3, .int wc, .int sl, .int pl, .int ki, .int y0_10, .int te, .int nu])), (a1, .inl (G.2.1.1, 600, .inl text))]) F (c_X0_isBlank l G (f_X0_byteAt len text y0_10)) okS_X0_isBlank k_ml_X0_141 rfl rfl ⟨Nat.le_of_ble_eq_true rfl, Nat.le_of_ble_eq_true rfl⟩ hN hK hP hD hS hA [] [0, 1] [0, 1] (by decide) rfl rfl (by decide) (by decide) (by decide) rfl rfl rfl hl.1 (Nat.le_of_ble_eq_true rfl) dX0_readToken_27 ⟨Nat.le_refl _, Nat.le_refl _⟩ (fun H locs hP hD hS => ?_)
        refine lv_if_eq (tgt := 46) hx hb dX0_readToken_30 (by decide) (fun c_9 => ?_) (fun c_9 => ?_)
        · skip
          refine lv_aload_n hx hb dX0_readToken_46 rfl (lv_at hl 0 rfl) ?_
          refine lv_aload_n hx hb dX0_readToken_47 rfl (lv_at hl 0 rfl) ?_
          refine va_get (D := G.1) (ci := 4) (v := .int y0_10) (C := RX0) (T := TX0) (N := 13) hx hb hts in_X0 hown hK hP 0 rfl rfl 10 (by decide) (hts _ k_fl_X0_123) (fun _ h9 => h9) rfl dX0_readToken_48 ?_
          refine gV (As := [.int y0_10]) (rest := []) (wr := []) (ws' := [(a0, .inr (4, [.ref a1, .int len, .int ec, .int ep, .ref a2, .ref a3, .int wc, .int sl, .int pl, .int ki, .int y0_10, .int te, .int nu])), (a1, .inl (G.2.1.1, 600, .inl text))]) F (c_X0_byteAt l G a0 a1 a2 a3 len ec ep wc sl pl ki y0_10 te nu text y0_10) okV_X0_byteAt k_ml_X0_134 rfl rfl ⟨Nat.le_of_ble_eq_true rfl, Nat.le_of_ble_eq_true rfl⟩ hN hK hP hD hS hA [0, 1] [] [0, 1] (by decide) rfl rfl (by decide) (by decide) (by decide) rfl (q0 := 0) rfl rfl rfl rfl hl.1 (Nat.le_of_ble_eq_true rfl) dX0_readToken_51 ⟨Nat.le_refl _, Nat.le_refl _⟩ (fun H locs hP hD hS => ?_)
          refine lv_istore_n (lv' := [(1, .int (f_X0_byteAt len text y0_10)), (0, .ref a0)]) hx hb dX0_readToken_54 rfl hl (by decide) rfl (fun ls hl => ?_)
          refine lv_aload_n hx hb dX0_readToken_55 rfl (lv_at hl 1 rfl) ?_
          refine lv_aload_n hx hb dX0_readToken_56 rfl (lv_at hl 1 rfl) ?_
          refine va_get (D := G.1) (ci := 4) (v := .int y0_10) (C := RX0) (T := TX0) (N := 13) hx hb hts in_X0 hown hK hP 0 rfl rfl 10 (by decide) (hts _ k_fl_X0_123) (fun _ h9 => h9) rfl dX0_readToken_57 ?_
          refine lv_iconst (v := 1) hx hb dX0_readToken_60 (by decide) ?_
          refine lv_iadd hx hb dX0_readToken_61 ?_
          refine lv_aload_n hx hb dX0_readToken_62 rfl (lv_at hl 1 rfl) ?_
          refine va_get (D := G.1) (ci := 4) (v := .int len) (C := RX0) (T := TX0) (N := 13) hx hb hts in_X0 hown hK hP 0 rfl rfl 1 (by decide) (hts _ k_fl_X0_29) (fun _ h9 => h9) rfl dX0_readToken_63 ?_
          refine gS (As := [.int (y0_10 + 1), .int len]) (rest := [.ref a0]) (wr := [(a0, .inr (4, [.ref a1, .int len, .int ec, .int ep, .ref a2, .ref a3, .int wc, .int sl, .int pl, .int ki, .int y0_10, .int te, .int nu])), (a1, .inl (G.2.1.1, 600, .inl text))]) (ws' := [(a0, .inr (4, [.ref a1, .int len, .int ec, .int ep, .ref a2, .ref a3, .int wc, .int sl, .int pl, .int ki, .int y0_10, .int te, .int nu])), (a1, .inl (G.2.1.1, 600, .inl text))]) F (c_J9_min_7cf53 l G (y0_10 + 1) len) okS_J9_min_7cf53 k_ml_X0_144 rfl rfl ⟨Nat.le_of_ble_eq_true rfl, Nat.le_of_ble_eq_true rfl⟩ hN hK hP hD hS hA [] [0, 1] [0, 1] (by decide) rfl rfl (by decide) (by decide) (by decide) rfl rfl rfl hl.1 (Nat.le_of_ble_eq_true rfl) dX0_readToken_66 ⟨Nat.le_refl _, Nat.le_refl _⟩ (fun H locs hP hD hS => ?_)
          refine va_put (D := G.1) (ci := 4) (v := .int (f_J9_min_7cf53 (y0_10 + 1) len)) (ty := .int) (C := RX0) (T := TX0) (N := 13) hx hb hts in_X0 tyX0 tyX0_ok nmX0 hown hK hP hD hS 0 rfl rfl 11 (by decide) (hts _ k_fl_X0_80) (fun _ h9 => h9) rfl (by decide +kernel) rfl rfl (Nat.le_of_ble_eq_true rfl) dX0_readToken_69 (fun H locs hP hD hS => ?_)
          replace hP : va_P G.1 vwCl [(a0, .inr (4, [.ref a1, .int len, .int ec, .int ep, .ref a2, .ref a3, .int wc, .int sl, .int pl, .int ki, .int y0_10, .int (f_J9_min_7cf53 (y0_10 + 1) len), .int nu])), (a1, .inl (G.2.1.1, 600, .inl text))] H := hP
          replace hD : va_D A [(a0, .inr (4, [.ref a1, .int len, .int ec, .int ep, .ref a2, .ref a3, .int wc, .int sl, .int pl, .int ki, .int y0_10, .int (f_J9_min_7cf53 (y0_10 + 1) len), .int nu])), (a1, .inl (G.2.1.1, 600, .inl text))] := hD
          refine lv_aload_n hx hb dX0_readToken_72 rfl (lv_at hl 1 rfl) ?_
          refine va_get (D := G.1) (ci := 4) (v := .int y0_10) (C := RX0) (T := TX0) (N := 13) hx hb hts in_X0 hown hK hP 0 rfl rfl 10 (by decide) (hts _ k_fl_X0_123) (fun _ h9 => h9) rfl dX0_readToken_73 ?_
          refine lv_aload_n hx hb dX0_readToken_76 rfl (lv_at hl 1 rfl) ?_
          refine va_get (D := G.1) (ci := 4) (v := .int len) (C := RX0) (T := TX0) (N := 13) hx hb hts in_X0 hown hK hP 0 rfl rfl 1 (by decide) (hts _ k_fl_X0_29) (fun _ h9 => h9) rfl dX0_readToken_77 ?_
          refine lv_icmp_lt (tgt := 91) hx hb dX0_readToken_80 (by decide) (fun c_10 => ?_) (fun c_10 => ?_)
          · skip
            refine lv_iload_n hx hb dX0_readToken_91 rfl (lv_at hl 0 rfl) ?_
            refine gS (As := [.int (f_X0_byteAt len text y0_10)]) (rest := []) (wr := [(a0, .inr (4, [.ref a1, .int len, .int ec, .int ep, .ref a2, .ref a3, .int wc, .int sl, .int pl, .int ki, .int y0_10, .int (f_J9_min_7cf53 (y0_10 + 1) len), .int nu])), (a1, .inl (G.2.1.1, 600, .inl text))]) (ws' := [(a0, .inr (4, [.ref a1, .int len, .int ec, .int ep, .ref a2, .ref a3, .int wc, .int sl, .int pl, .int ki, .int y0_10, .int (f_J9_min_7cf53 (y0_10 + 1) len), .int nu])), (a1, .inl (G.2.1.1, 600, .inl text))]) F (c_X0_isLetter l G (f_X0_byteAt len text y0_10)) okS_X0_isLetter k_ml_X0_149 rfl rfl ⟨Nat.le_of_ble_eq_true rfl, Nat.le_of_ble_eq_true rfl⟩ hN hK hP hD hS hA [] [0, 1] [0, 1] (by decide) rfl rfl (by decide) (by decide) (by decide) rfl rfl rfl hl.1 (Nat.le_of_ble_eq_true rfl) dX0_readToken_92 ⟨Nat.le_refl _, Nat.le_refl _⟩ (fun H locs hP hD hS => ?_)
            refine lv_if_eq (tgt := 110) hx hb dX0_readToken_95 (by decide) (fun c_11 => ?_) (fun c_11 => ?_)
            · skip
              refine lv_iload_n hx hb dX0_readToken_110 rfl (lv_at hl 0 rfl) ?_
              refine gS (As := [.int (f_X0_byteAt len text y0_10)]) (rest := []) (wr := [(a0, .inr (4, [.ref a1, .int len, .int ec, .int ep, .ref a2, .ref a3, .int wc, .int sl, .int pl, .int ki, .int y0_10, .int (f_J9_min_7cf53 (y0_10 + 1) len), .int nu])), (a1, .inl (G.2.1.1, 600, .inl text))]) (ws' := [(a0, .inr (4, [.ref a1, .int len, .int ec, .int ep, .ref a2, .ref a3, .int wc, .int sl, .int pl, .int ki, .int y0_10, .int (f_J9_min_7cf53 (y0_10 + 1) len), .int nu])), (a1, .inl (G.2.1.1, 600, .inl text))]) F (c_X0_isDigit l G (f_X0_byteAt len text y0_10)) okS_X0_isDigit k_ml_X0_155 rfl rfl ⟨Nat.le_of_ble_eq_true rfl, Nat.le_of_ble_eq_true rfl⟩ hN hK hP hD hS hA [] [0, 1] [0, 1] (by decide) rfl rfl (by decide) (by decide) (by decide) rfl rfl rfl hl.1 (Nat.le_of_ble_eq_true rfl) dX0_readToken_111 ⟨Nat.le_refl _, Nat.le_refl _⟩ (fun H locs hP hD hS => ?_)
              refine lv_if_eq (tgt := 124) hx hb dX0_readToken_114 (by decide) (fun c_12 => ?_) (fun c_12 => ?_)
              · skip
                refine lv_aload_n hx hb dX0_readToken_124 rfl (lv_at hl 1 rfl) ?_
                refine lv_iload_n hx hb dX0_readToken_125 rfl (lv_at hl 0 rfl) ?_
                refine lv_bipush (v := 46) hx hb dX0_readToken_126 (by decide) ?_
                refine lv_icmp_eq (tgt := 143) hx hb dX0_readToken_128 (by decide) (fun c_13 => ?_) (fun c_13 => ?_)
                · skip
                  refine lv_iload_n hx hb dX0_readToken_143 rfl (lv_at hl 0 rfl) ?_
                  refine lv_goto (tgt := 148) hx hb dX0_readToken_144 (by decide) ?_
                  refine va_put (D := G.1) (ci := 4) (v := .int (f_X0_byteAt len text y0_10)) (ty := .int) (C := RX0) (T := TX0) (N := 13) hx hb hts in_X0 tyX0 tyX0_ok nmX0 hown hK hP hD hS 0 rfl rfl 9 (by decide) (hts _ k_fl_X0_38) (fun _ h9 => h9) rfl (by decide +kernel) rfl rfl (Nat.le_of_ble_eq_true rfl) dX0_readToken_148 (fun H locs hP hD hS => ?_)
                  replace hP : va_P G.1 vwCl [(a0, .inr (4, [.ref a1, .int len, .int ec, .int ep, .ref a2, .ref a3, .int wc, .int sl, .int pl, .int (f_X0_byteAt len text y0_10), .int y0_10, .int (f_J9_min_7cf53 (y0_10 + 1) len), .int nu])), (a1, .inl (G.2.1.1, 600, .inl text))] H := hP
                  replace hD : va_D A [(a0, .inr (4, [.ref a1, .int len, .int ec, .int ep, .ref a2, .ref a3, .int wc, .int sl, .int pl, .int (f_X0_byteAt len text y0_10), .int y0_10, .int (f_J9_min_7cf53 (y0_10 + 1) len), .int nu])), (a1, .inl (G.2.1.1, 600, .inl text))] := hD
                  have ef : (f_X0_readToken len ki te nu text) = ((f_X0_byteAt len text y0_10), y0_10, (f_J9_min_7cf53 (y0_10 + 1) len), nu) := (hO.trans (((if_neg c_1).trans ((if_pos c_9).trans ((if_pos c_10).trans ((if_pos c_11).trans ((if_pos c_12).trans (if_pos c_13))))))))
                  exact gRetV F hr hlocks hK hP hD hS rfl (by rw [ef]) (Nat.le_of_ble_eq_true rfl) (Nat.le_of_ble_eq_true rfl) dX0_readToken_151
                · skip
                  refine lv_iload_n hx hb dX0_readToken_131 rfl (lv_at hl 0 rfl) ?_
                  refine lv_bipush (v := 59) hx hb dX0_readToken_132 (by decide) ?_
                  refine lv_icmp_eq (tgt := 143) hx hb dX0_readToken_134 (by decide) (fun c_14 => ?_) (fun c_14 => ?_)
                  · skip
                    refine lv_iload_n hx hb dX0_readToken_143 rfl (lv_at hl 0 rfl) ?_
                    refine lv_goto (tgt := 148) hx hb dX0_readToken_144 (by decide) ?_
                    refine va_put (D := G.1) (ci := 4) (v := .int (f_X0_byteAt len text y0_10)) (ty := .int) (C := RX0) (T := TX0) (N := 13) hx hb hts in_X0 tyX0 tyX0_ok nmX0 hown hK hP hD hS 0 rfl rfl 9 (by decide) (hts _ k_fl_X0_38) (fun _ h9 => h9) rfl (by decide +kernel) rfl rfl (Nat.le_of_ble_eq_true rfl) dX0_readToken_148 (fun H locs hP hD hS => ?_)
                    replace hP : va_P G.1 vwCl [(a0, .inr (4, [.ref a1, .int len, .int ec, .int ep, .ref a2, .ref a3, .int wc, .int sl, .int pl, .int (f_X0_byteAt len text y0_10), .int y0_10, .int (f_J9_min_7cf53 (y0_10 + 1) len), .int nu])), (a1, .inl (G.2.1.1, 600, .inl text))] H := hP
                    replace hD : va_D A [(a0, .inr (4, [.ref a1, .int len, .int ec, .int ep, .ref a2, .ref a3, .int wc, .int sl, .int pl, .int (f_X0_byteAt len text y0_10), .int y0_10, .int (f_J9_min_7cf53 (y0_10 + 1) len), .int nu])), (a1, .inl (G.2.1.1, 600, .inl text))] := hD
                    have ef : (f_X0_readToken len ki te nu text) = ((f_X0_byteAt len text y0_10), y0_10, (f_J9_min_7cf53 (y0_10 + 1) len), nu) := (hO.trans (((if_neg c_1).trans ((if_pos c_9).trans ((if_pos c_10).trans ((if_pos c_11).trans ((if_pos c_12).trans ((if_neg c_13).trans (if_pos c_14)))))))))
                    exact gRetV F hr hlocks hK hP hD hS rfl (by rw [ef]) (Nat.le_of_ble_eq_true rfl) (Nat.le_of_ble_eq_true rfl) dX0_readToken_151
                  · skip
                    refine lv_iload_n hx hb dX0_readToken_137 rfl (lv_at hl 0 rfl) ?_
                    refine lv_bipush (v := 45) hx hb dX0_readToken_138 (by decide) ?_
                    refine lv_icmp_ne (tgt := 147) hx hb dX0_readToken_140 (by decide) (fun c_15 => ?_) (fun c_15 => ?_)
                    · skip
                      refine lv_iconst (v := 3) hx hb dX0_readToken_147 (by decide) ?_
                      refine va_put (D := G.1) (ci := 4) (v := .int 3) (ty := .int) (C := RX0) (T := TX0) (N := 13) hx hb hts in_X0 tyX0 tyX0_ok nmX0 hown hK hP hD hS 0 rfl rfl 9 (by decide) (hts _ k_fl_X0_38) (fun _ h9 => h9) rfl (by decide +kernel) rfl rfl (Nat.le_of_ble_eq_true rfl) dX0_readToken_148 (fun H locs hP hD hS => ?_)
                      replace hP : va_P G.1 vwCl [(a0, .inr (4, [.ref a1, .int len, .int ec, .int ep, .ref a2, .ref a3, .int wc, .int sl, .int pl, .int 3, .int y0_10, .int (f_J9_min_7cf53 (y0_10 + 1) len), .int nu])), (a1, .inl (G.2.1.1, 600, .inl text))] H := hP
                      replace hD : va_D A [(a0, .inr (4, [.ref a1, .int len, .int ec, .int ep, .ref a2, .ref a3, .int wc, .int sl, .int pl, .int 3, .int y0_10, .int (f_J9_min_7cf53 (y0_10 + 1) len), .int nu])), (a1, .inl (G.2.1.1, 600, .inl text))] := hD
                      have ef : (f_X0_readToken len ki te nu text) = (3, y0_10, (f_J9_min_7cf53 (y0_10 + 1) len), nu) := (hO.trans (((if_neg c_1).trans ((if_pos c_9).trans ((if_pos c_10).trans ((if_pos c_11).trans ((if_pos c_12).trans ((if_neg c_13).trans ((if_neg c_14).trans (if_neg c_15))))))))))
                      exact gRetV F hr hlocks hK hP hD hS rfl (by rw [ef]) (Nat.le_of_ble_eq_true rfl) (Nat.le_of_ble_eq_true rfl) dX0_readToken_151
                    · skip
                      refine lv_iload_n hx hb dX0_readToken_143 rfl (lv_at hl 0 rfl) ?_
                      refine lv_goto (tgt := 148) hx hb dX0_readToken_144 (by decide) ?_
                      refine va_put (D := G.1) (ci := 4) (v := .int (f_X0_byteAt len text y0_10)) (ty := .int) (C := RX0) (T := TX0) (N := 13) hx hb hts in_X0 tyX0 tyX0_ok nmX0 hown hK hP hD hS 0 rfl rfl 9 (by decide) (hts _ k_fl_X0_38) (fun _ h9 => h9) rfl (by decide +kernel) rfl rfl (Nat.le_of_ble_eq_true rfl) dX0_readToken_148 (fun H locs hP hD hS => ?_)
                      replace hP : va_P G.1 vwCl [(a0, .inr (4, [.ref a1, .int len, .int ec, .int ep, .ref a2, .ref a3, .int wc, .int sl, .int pl, .int (f_X0_byteAt len text y0_10), .int y0_10, .int (f_J9_min_7cf53 (y0_10 + 1) len), .int nu])), (a1, .inl (G.2.1.1, 600, .inl text))] H := hP
                      replace hD : va_D A [(a0, .inr (4, [.ref a1, .int len, .int ec, .int ep, .ref a2, .ref a3, .int wc, .int sl, .int pl, .int (f_X0_byteAt len text y0_10), .int y0_10, .int (f_J9_min_7cf53 (y0_10 + 1) len), .int nu])), (a1, .inl (G.2.1.1, 600, .inl text))] := hD
                      have ef : (f_X0_readToken len ki te nu text) = ((f_X0_byteAt len text y0_10), y0_10, (f_J9_min_7cf53 (y0_10 + 1) len), nu) := (hO.trans (((if_neg c_1).trans ((if_pos c_9).trans ((if_pos c_10).trans ((if_pos c_11).trans ((if_pos c_12).trans ((if_neg c_13).trans ((if_neg c_14).trans (if_pos c_15))))))))))
                      exact gRetV F hr hlocks hK hP hD hS rfl (by rw [ef]) (Nat.le_of_ble_eq_true rfl) (Nat.le_of_ble_eq_true rfl) dX0_readToken_151
              · skip
                refine lv_aload_n hx hb dX0_readToken_117 rfl (lv_at hl 1 rfl) ?_
                refine gV (As := []) (rest := []) (wr := []) (ws' := [(a0, .inr (4, [.ref a1, .int len, .int ec, .int ep, .ref a2, .ref a3, .int wc, .int sl, .int pl, .int ((f_X0_readDigits len ki y0_10 text).1), .int y0_10, .int ((f_X0_readDigits len ki y0_10 text).2.1), .int ((f_X0_readDigits len ki y0_10 text).2.2)])), (a1, .inl (G.2.1.1, 600, .inl text))]) F (c_X0_readDigits l G a0 a1 a2 a3 len ec ep wc sl pl ki y0_10 (f_J9_min_7cf53 (y0_10 + 1) len) nu text) okV_X0_readDigits k_ml_X0_158 rfl rfl ⟨Nat.le_of_ble_eq_true rfl, Nat.le_of_ble_eq_true rfl⟩ hN hK hP hD hS hA [0, 1] [] [0, 1] (by decide) rfl rfl (by decide) (by decide) (by decide) rfl (q0 := 0) rfl rfl rfl rfl hl.1 (Nat.le_of_ble_eq_true rfl) dX0_readToken_118 ⟨Nat.le_refl _, Nat.le_refl _⟩ (fun H locs hP hD hS => ?_)
                generalize et16 : (f_X0_readDigits len ki y0_10 text) = t16 at hP hD ⊢
                refine lv_goto (tgt := 151) hx hb dX0_readToken_121 (by decide) ?_
                have ef : (f_X0_readToken len ki te nu text) = (t16.1, y0_10, t16.2.1, t16.2.2) := (by subst et16; exact (hO.trans (((if_neg c_1).trans ((if_pos c_9).trans ((if_pos c_10).trans ((if_pos c_11).trans (if_neg c_12))))))))
                exact gRetV F hr hlocks hK hP hD hS rfl (by rw [ef]) (Nat.le_of_ble_eq_true rfl) (Nat.le_of_ble_eq_true rfl) dX0_readToken_151
            · skip
              refine lv_aload_n hx hb dX0_readToken_98 rfl (lv_at hl 1 rfl) ?_
              refine lv_iconst (v := 1) hx hb dX0_readToken_99 (by decide) ?_
              refine va_put (D := G.1) (ci := 4) (v := .int 1) (ty := .int) (C := RX0) (T := TX0) (N := 13) hx hb hts in_X0 tyX0 tyX0_ok nmX0 hown hK hP hD hS 0 rfl rfl 9 (by decide) (hts _ k_fl_X0_38) (fun _ h9 => h9) rfl (by decide +kernel) rfl rfl (Nat.le_of_ble_eq_true rfl) dX0_readToken_100 (fun H locs hP hD hS => ?_)
              replace hP : va_P G.1 vwCl [(a0, .inr (4, [.ref a1, .int len, .int ec, .int ep, .ref a2, .ref a3, .int wc, .int sl, .int pl, .int 1, .int y0_10, .int (f_J9_min_7cf53 (y0_10 + 1) len), .int nu])), (a1, .inl (G.2.1.1, 600, .inl text))] H := hP
              replace hD : va_D A [(a0, .inr (4, [.ref a1, .int len, .int ec, .int ep, .ref a2, .ref a3, .int wc, .int sl, .int pl, .int 1, .int y0_10, .int (f_J9_min_7cf53 (y0_10 + 1) len), .int nu])), (a1, .inl (G.2.1.1, 600, .inl text))] := hD
              refine lv_aload_n hx hb dX0_readToken_103 rfl (lv_at hl 1 rfl) ?_
              refine gV (As := []) (rest := []) (wr := []) (ws' := [(a0, .inr (4, [.ref a1, .int len, .int ec, .int ep, .ref a2, .ref a3, .int wc, .int sl, .int pl, .int 1, .int y0_10, .int (f_X0_readLetters len (f_J9_min_7cf53 (y0_10 + 1) len) text), .int nu])), (a1, .inl (G.2.1.1, 600, .inl text))]) F (c_X0_readLetters l G a0 a1 a2 a3 len ec ep wc sl pl 1 y0_10 (f_J9_min_7cf53 (y0_10 + 1) len) nu text) okV_X0_readLetters k_ml_X0_152 rfl rfl ⟨Nat.le_of_ble_eq_true rfl, Nat.le_of_ble_eq_true rfl⟩ hN hK hP hD hS hA [0, 1] [] [0, 1] (by decide) rfl rfl (by decide) (by decide) (by decide) rfl (q0 := 0) rfl rfl rfl rfl hl.1 (Nat.le_of_ble_eq_true rfl) dX0_readToken_104 ⟨Nat.le_refl _, Nat.le_refl _⟩ (fun H locs hP hD hS => ?_)
              refine lv_goto (tgt := 151) hx hb dX0_readToken_107 (by decide) ?_
              have ef : (f_X0_readToken len ki te nu text) = (1, y0_10, (f_X0_readLetters len (f_J9_min_7cf53 (y0_10 + 1) len) text), nu) := (hO.trans (((if_neg c_1).trans ((if_pos c_9).trans ((if_pos c_10).trans (if_neg c_11))))))
              exact gRetV F hr hlocks hK hP hD hS rfl (by rw [ef]) (Nat.le_of_ble_eq_true rfl) (Nat.le_of_ble_eq_true rfl) dX0_readToken_151
          · skip
            refine lv_aload_n hx hb dX0_readToken_83 rfl (lv_at hl 1 rfl) ?_
            refine lv_iconst (v := 0) hx hb dX0_readToken_84 (by decide) ?_
            refine va_put (D := G.1) (ci := 4) (v := .int 0) (ty := .int) (C := RX0) (T := TX0) (N := 13) hx hb hts in_X0 tyX0 tyX0_ok nmX0 hown hK hP hD hS 0 rfl rfl 9 (by decide) (hts _ k_fl_X0_38) (fun _ h9 => h9) rfl (by decide +kernel) rfl rfl (Nat.le_of_ble_eq_true rfl) dX0_readToken_85 (fun H locs hP hD hS => ?_)
            replace hP : va_P G.1 vwCl [(a0, .inr (4, [.ref a1, .int len, .int ec, .int ep, .ref a2, .ref a3, .int wc, .int sl, .int pl, .int 0, .int y0_10, .int (f_J9_min_7cf53 (y0_10 + 1) len), .int nu])), (a1, .inl (G.2.1.1, 600, .inl text))] H := hP
            replace hD : va_D A [(a0, .inr (4, [.ref a1, .int len, .int ec, .int ep, .ref a2, .ref a3, .int wc, .int sl, .int pl, .int 0, .int y0_10, .int (f_J9_min_7cf53 (y0_10 + 1) len), .int nu])), (a1, .inl (G.2.1.1, 600, .inl text))] := hD
            refine lv_goto (tgt := 151) hx hb dX0_readToken_88 (by decide) ?_
            have ef : (f_X0_readToken len ki te nu text) = (0, y0_10, (f_J9_min_7cf53 (y0_10 + 1) len), nu) := (hO.trans (((if_neg c_1).trans ((if_pos c_9).trans (if_neg c_10)))))
            exact gRetV F hr hlocks hK hP hD hS rfl (by rw [ef]) (Nat.le_of_ble_eq_true rfl) (Nat.le_of_ble_eq_true rfl) dX0_readToken_151
        · skip
          refine lv_aload_n hx hb dX0_readToken_33 rfl (lv_at hl 0 rfl) ?_
          refine lv_dup hx hb dX0_readToken_34 rfl ?_
          refine va_get (D := G.1) (ci := 4) (v := .int y0_10) (C := RX0) (T := TX0) (N := 13) hx hb hts in_X0 hown hK hP 0 rfl rfl 10 (by decide) (hts _ k_fl_X0_123) (fun _ h9 => h9) rfl dX0_readToken_35 ?_
          refine lv_iconst (v := 1) hx hb dX0_readToken_38 (by decide) ?_
          refine lv_iadd hx hb dX0_readToken_39 ?_
          refine va_put (D := G.1) (ci := 4) (v := .int (y0_10 + 1)) (ty := .int) (C := RX0) (T := TX0) (N := 13) hx hb hts in_X0 tyX0 tyX0_ok nmX0 hown hK hP hD hS 0 rfl rfl 10 (by decide) (hts _ k_fl_X0_123) (fun _ h9 => h9) rfl (by decide +kernel) rfl rfl (Nat.le_of_ble_eq_true rfl) dX0_readToken_40 (fun H locs hP hD hS => ?_)
          replace hP : va_P G.1 vwCl [(a0, .inr (4, [.ref a1, .int len, .int ec, .int ep, .ref a2, .ref a3, .int wc, .int sl, .int pl, .int ki, .int (y0_10 + 1), .int te, .int nu])), (a1, .inl (G.2.1.1, 600, .inl text))] H := hP
          replace hD : va_D A [(a0, .inr (4, [.ref a1, .int len, .int ec, .int ep, .ref a2, .ref a3, .int wc, .int sl, .int pl, .int ki, .int (y0_10 + 1), .int te, .int nu])), (a1, .inl (G.2.1.1, 600, .inl text))] := hD
          refine lv_goto (tgt := 8) hx hb dX0_readToken_43 (by decide) ?_
          exact ih (y0_10 + 1) trivial (tok_mu c_1 hn) (hO.trans (((if_neg c_1).trans (if_neg c_9)))) _ _ hP hD hS ls (lv_sub hl [0] rfl)
  exact loop_8 ((len.toInt - te.toInt).toNat + 1) te trivial (by (try rw [vp_in_iff]); omega) rfl _ _ hP hD hS ls (lv_sub hl [0] rfl)
theorem okV_X0_readToken : gOkV yX0_readToken cX0_readToken 2 none 0 := ⟨⟨k_im_X0_readToken, k_se_X0_readToken, k_in_X0, k_cd_X0_readToken⟩, by decide, by decide, by decide +kernel⟩
def f_X0_fail (ec : Int32) (ep : Int32) (ts : Int32) (p0 : Int32) : Int32 × Int32 :=
  if ec = 0 then
    (p0, ts)
  else
    (ec, ep)
set_option maxRecDepth 100000 in
set_option maxHeartbeats 4000000 in
theorem c_X0_fail (l : Launch) (G : gG) (a0 : Nat) (a1 : Nat) (a2 : Nat) (a3 : Nat) (len : Int32) (ec : Int32) (ep : Int32) (wc : Int32) (sl : Int32) (pl : Int32) (ki : Int32) (ts : Int32) (te : Int32) (nu : Int32) (p0 : Int32) : gM l G yX0_fail cX0_fail 2 none { frames := 0, cells := 0, slots := 0, locals := 0 } [.ref a0, .int p0] [(a0, .inr (4, [.ref a1, .int len, .int ec, .int ep, .ref a2, .ref a3, .int wc, .int sl, .int pl, .int ki, .int ts, .int te, .int nu]))] none [(a0, .inr (4, [.ref a1, .int len, .int ((f_X0_fail ec ep ts p0).1), .int ((f_X0_fail ec ep ts p0).2), .ref a2, .ref a3, .int wc, .int sl, .int pl, .int ki, .int ts, .int te, .int nu]))] 0 0 := by
  refine gBegin (by decide +kernel) (Nat.le_of_ble_eq_true rfl) (fun p e s m args below meth c A F hr hlocks hname hN hK hP hD hA hS ls hl => ?_)
  obtain ⟨hx, hb, hml, hown, hts⟩ := id F
  replace hP : va_P G.1 vwCl [(a0, .inr (4, [.ref a1, .int len, .int ec, .int ep, .ref a2, .ref a3, .int wc, .int sl, .int pl, .int ki, .int ts, .int te, .int nu]))] s.heap := hP
  replace hl : lv_has ls 2 [(0, .ref a0), (1, .int p0)] := hl
  refine lv_aload_n hx hb dX0_fail_0 rfl (lv_at hl 0 rfl) ?_
  refine va_get (D := G.1) (ci := 4) (v := .int ec) (C := RX0) (T := TX0) (N := 13) hx hb hts in_X0 hown hK hP 0 rfl rfl 2 (by decide) (hts _ k_fl_X0_41) (fun _ h9 => h9) rfl dX0_fail_1 ?_
  refine lv_if_ne (tgt := 20) hx hb dX0_fail_4 (by decide) (fun c_1 => ?_) (fun c_1 => ?_)
  · skip
    have ef : (f_X0_fail ec ep ts p0) = (ec, ep) := (if_neg c_1)
    exact gRetV F hr hlocks hK hP hD hS rfl (by rw [ef]) (Nat.le_of_ble_eq_true rfl) (Nat.le_of_ble_eq_true rfl) dX0_fail_20
  · skip
    refine lv_aload_n hx hb dX0_fail_7 rfl (lv_at hl 0 rfl) ?_
    refine lv_iload_n hx hb dX0_fail_8 rfl (lv_at hl 1 rfl) ?_
    refine va_put (D := G.1) (ci := 4) (v := .int p0) (ty := .int) (C := RX0) (T := TX0) (N := 13) hx hb hts in_X0 tyX0 tyX0_ok nmX0 hown hK hP hD hS 0 rfl rfl 2 (by decide) (hts _ k_fl_X0_41) (fun _ h9 => h9) rfl (by decide +kernel) rfl rfl (Nat.le_of_ble_eq_true rfl) dX0_fail_9 (fun H locs hP hD hS => ?_)
    replace hP : va_P G.1 vwCl [(a0, .inr (4, [.ref a1, .int len, .int p0, .int ep, .ref a2, .ref a3, .int wc, .int sl, .int pl, .int ki, .int ts, .int te, .int nu]))] H := hP
    replace hD : va_D A [(a0, .inr (4, [.ref a1, .int len, .int p0, .int ep, .ref a2, .ref a3, .int wc, .int sl, .int pl, .int ki, .int ts, .int te, .int nu]))] := hD
    refine lv_aload_n hx hb dX0_fail_12 rfl (lv_at hl 0 rfl) ?_
    refine lv_aload_n hx hb dX0_fail_13 rfl (lv_at hl 0 rfl) ?_
    refine va_get (D := G.1) (ci := 4) (v := .int ts) (C := RX0) (T := TX0) (N := 13) hx hb hts in_X0 hown hK hP 0 rfl rfl 10 (by decide) (hts _ k_fl_X0_123) (fun _ h9 => h9) rfl dX0_fail_14 ?_
    refine va_put (D := G.1) (ci := 4) (v := .int ts) (ty := .int) (C := RX0) (T := TX0) (N := 13) hx hb hts in_X0 tyX0 tyX0_ok nmX0 hown hK hP hD hS 0 rfl rfl 3 (by decide) (hts _ k_fl_X0_15) (fun _ h9 => h9) rfl (by decide +kernel) rfl rfl (Nat.le_of_ble_eq_true rfl) dX0_fail_17 (fun H locs hP hD hS => ?_)
    replace hP : va_P G.1 vwCl [(a0, .inr (4, [.ref a1, .int len, .int p0, .int ts, .ref a2, .ref a3, .int wc, .int sl, .int pl, .int ki, .int ts, .int te, .int nu]))] H := hP
    replace hD : va_D A [(a0, .inr (4, [.ref a1, .int len, .int p0, .int ts, .ref a2, .ref a3, .int wc, .int sl, .int pl, .int ki, .int ts, .int te, .int nu]))] := hD
    have ef : (f_X0_fail ec ep ts p0) = (p0, ts) := (if_pos c_1)
    exact gRetV F hr hlocks hK hP hD hS rfl (by rw [ef]) (Nat.le_of_ble_eq_true rfl) (Nat.le_of_ble_eq_true rfl) dX0_fail_20
theorem okV_X0_fail : gOkV yX0_fail cX0_fail 2 none 1 := ⟨⟨k_im_X0_fail, k_se_X0_fail, k_in_X0, k_cd_X0_fail⟩, by decide, by decide, by decide +kernel⟩
def f_X0_placeAfter (pl : Int32) : Int32 :=
  (f_X6_locationOf (pl / 32) (f_X6_cycleOf (pl + 1)))
set_option maxRecDepth 100000 in
set_option maxHeartbeats 4000000 in
theorem c_X0_placeAfter (l : Launch) (G : gG) (a0 : Nat) (a1 : Nat) (a2 : Nat) (a3 : Nat) (len : Int32) (ec : Int32) (ep : Int32) (wc : Int32) (sl : Int32) (pl : Int32) (ki : Int32) (ts : Int32) (te : Int32) (nu : Int32) : gM l G yX0_placeAfter cX0_placeAfter 1 (some .int) { frames := 1, cells := 0, slots := 0, locals := 21 } [.ref a0] [(a0, .inr (4, [.ref a1, .int len, .int ec, .int ep, .ref a2, .ref a3, .int wc, .int sl, .int pl, .int ki, .int ts, .int te, .int nu]))] (some (.int (f_X0_placeAfter pl))) [(a0, .inr (4, [.ref a1, .int len, .int ec, .int ep, .ref a2, .ref a3, .int wc, .int sl, .int pl, .int ki, .int ts, .int te, .int nu]))] 0 0 := by
  refine gBegin (by decide +kernel) (Nat.le_of_ble_eq_true rfl) (fun p e s m args below meth c A F hr hlocks hname hN hK hP hD hA hS ls hl => ?_)
  obtain ⟨hx, hb, hml, hown, hts⟩ := id F
  replace hP : va_P G.1 vwCl [(a0, .inr (4, [.ref a1, .int len, .int ec, .int ep, .ref a2, .ref a3, .int wc, .int sl, .int pl, .int ki, .int ts, .int te, .int nu]))] s.heap := hP
  replace hl : lv_has ls 1 [(0, .ref a0)] := hl
  refine lv_aload_n hx hb dX0_placeAfter_0 rfl (lv_at hl 0 rfl) ?_
  refine va_get (D := G.1) (ci := 4) (v := .int pl) (C := RX0) (T := TX0) (N := 13) hx hb hts in_X0 hown hK hP 0 rfl rfl 8 (by decide) (hts _ k_fl_X0_57) (fun _ h9 => h9) rfl dX0_placeAfter_1 ?_
  refine lv_bipush (v := 32) hx hb dX0_placeAfter_4 (by decide) ?_
  refine lv_idiv hx hb dX0_placeAfter_6 (by decide) ?_
  refine lv_aload_n hx hb dX0_placeAfter_7 rfl (lv_at hl 0 rfl) ?_
  refine va_get (D := G.1) (ci := 4) (v := .int pl) (C := RX0) (T := TX0) (N := 13) hx hb hts in_X0 hown hK hP 0 rfl rfl 8 (by decide) (hts _ k_fl_X0_57) (fun _ h9 => h9) rfl dX0_placeAfter_8 ?_
  refine lv_iconst (v := 1) hx hb dX0_placeAfter_11 (by decide) ?_
  refine lv_iadd hx hb dX0_placeAfter_12 ?_
  refine gSN (As := [.int (pl + 1)]) (rest := [.int (pl / 32)]) (wr := [(a0, .inr (4, [.ref a1, .int len, .int ec, .int ep, .ref a2, .ref a3, .int wc, .int sl, .int pl, .int ki, .int ts, .int te, .int nu]))]) (ws' := [(a0, .inr (4, [.ref a1, .int len, .int ec, .int ep, .ref a2, .ref a3, .int wc, .int sl, .int pl, .int ki, .int ts, .int te, .int nu]))]) F (c_X6_cycleOf l G (pl + 1)) okS_X6_cycleOf kn_X0_120 rfl rfl ⟨Nat.le_of_ble_eq_true rfl, Nat.le_of_ble_eq_true rfl⟩ hN hK hP hD hS hA [] [0] [0] (by decide) rfl rfl (by decide) (by decide) (by decide) rfl rfl rfl hl.1 (Nat.le_of_ble_eq_true rfl) dX0_placeAfter_13 ⟨Nat.le_refl _, Nat.le_refl _⟩ (fun H locs hP hD hS => ?_)
  refine gSN (As := [.int (pl / 32), .int (f_X6_cycleOf (pl + 1))]) (rest := []) (wr := [(a0, .inr (4, [.ref a1, .int len, .int ec, .int ep, .ref a2, .ref a3, .int wc, .int sl, .int pl, .int ki, .int ts, .int te, .int nu]))]) (ws' := [(a0, .inr (4, [.ref a1, .int len, .int ec, .int ep, .ref a2, .ref a3, .int wc, .int sl, .int pl, .int ki, .int ts, .int te, .int nu]))]) F (c_X6_locationOf l G (pl / 32) (f_X6_cycleOf (pl + 1))) okS_X6_locationOf kn_X0_109 rfl rfl ⟨Nat.le_of_ble_eq_true rfl, Nat.le_of_ble_eq_true rfl⟩ hN hK hP hD hS hA [] [0] [0] (by decide) rfl rfl (by decide) (by decide) (by decide) rfl rfl rfl hl.1 (Nat.le_of_ble_eq_true rfl) dX0_placeAfter_16 ⟨Nat.le_refl _, Nat.le_refl _⟩ (fun H locs hP hD hS => ?_)
  exact gRetI F hr hlocks hK hP hD hS rfl rfl (Nat.le_of_ble_eq_true rfl) (Nat.le_of_ble_eq_true rfl) dX0_placeAfter_19
theorem okV_X0_placeAfter : gOkV yX0_placeAfter cX0_placeAfter 1 (some .int) 0 := ⟨⟨k_im_X0_placeAfter, k_se_X0_placeAfter, k_in_X0, k_cd_X0_placeAfter⟩, by decide, by decide, by decide +kernel⟩
def f_X0_isWritten (wri : Nat → Int32) (p0 : Int32) : Int32 :=
  (wri (Int32.toNatClampNeg (p0 &&& 255)))
set_option maxRecDepth 100000 in
set_option maxHeartbeats 4000000 in
theorem c_X0_isWritten (l : Launch) (G : gG) (a0 : Nat) (a1 : Nat) (a2 : Nat) (a3 : Nat) (len : Int32) (ec : Int32) (ep : Int32) (wc : Int32) (sl : Int32) (pl : Int32) (ki : Int32) (ts : Int32) (te : Int32) (nu : Int32) (wri : Nat → Int32) (p0 : Int32) (hwri : ∀ i : Nat, g01 (wri i)) : gM l G yX0_isWritten cX0_isWritten 2 (some .boolean) { frames := 0, cells := 0, slots := 0, locals := 0 } [.ref a0, .int p0] [(a0, .inr (4, [.ref a1, .int len, .int ec, .int ep, .ref a2, .ref a3, .int wc, .int sl, .int pl, .int ki, .int ts, .int te, .int nu])), (a3, .inl (G.2.1.2.1, 256, .inl wri))] (some (.int (f_X0_isWritten wri p0))) [(a0, .inr (4, [.ref a1, .int len, .int ec, .int ep, .ref a2, .ref a3, .int wc, .int sl, .int pl, .int ki, .int ts, .int te, .int nu])), (a3, .inl (G.2.1.2.1, 256, .inl wri))] 0 0 := by
  refine gBegin (by decide +kernel) (Nat.le_of_ble_eq_true rfl) (fun p e s m args below meth c A F hr hlocks hname hN hK hP hD hA hS ls hl => ?_)
  obtain ⟨hx, hb, hml, hown, hts⟩ := id F
  replace hP : va_P G.1 vwCl [(a0, .inr (4, [.ref a1, .int len, .int ec, .int ep, .ref a2, .ref a3, .int wc, .int sl, .int pl, .int ki, .int ts, .int te, .int nu])), (a3, .inl (G.2.1.2.1, 256, .inl wri))] s.heap := hP
  replace hl : lv_has ls 2 [(0, .ref a0), (1, .int p0)] := hl
  refine lv_aload_n hx hb dX0_isWritten_0 rfl (lv_at hl 0 rfl) ?_
  refine va_get (D := G.1) (ci := 4) (v := .ref a3) (C := RX0) (T := TX0) (N := 13) hx hb hts in_X0 hown hK hP 0 rfl rfl 5 (by decide) (hts _ k_fl_X0_22) (fun _ h9 => h9) rfl dX0_isWritten_1 ?_
  refine lv_iload_n hx hb dX0_isWritten_4 rfl (lv_at hl 1 rfl) ?_
  refine lv_sipush (v := 255) hx hb dX0_isWritten_5 (by decide) ?_
  refine lv_iand hx hb dX0_isWritten_8 ?_
  refine va_zald hx hb hK hP 1 1 rfl rfl (pk_andIn _ 8 (by decide) (by decide)) dX0_isWritten_9 ?_
  exact gRetZ F hr hlocks hK hP hD hS (gNz (hwri _)) rfl rfl (Nat.le_of_ble_eq_true rfl) (Nat.le_of_ble_eq_true rfl) dX0_isWritten_10
theorem okV_X0_isWritten : gOkV yX0_isWritten cX0_isWritten 2 (some .boolean) 1 := ⟨⟨k_im_X0_isWritten, k_se_X0_isWritten, k_in_X0, k_cd_X0_isWritten⟩, by decide, by decide, by decide +kernel⟩
def f_X0_wordFor (words : Nat → Int32) (p0 : Int32) : Int32 :=
  (words (Int32.toNatClampNeg (p0 &&& 255)))
set_option maxRecDepth 100000 in
set_option maxHeartbeats 4000000 in
theorem c_X0_wordFor (l : Launch) (G : gG) (a0 : Nat) (a1 : Nat) (a2 : Nat) (a3 : Nat) (len : Int32) (ec : Int32) (ep : Int32) (wc : Int32) (sl : Int32) (pl : Int32) (ki : Int32) (ts : Int32) (te : Int32) (nu : Int32) (words : Nat → Int32) (p0 : Int32) : gM l G yX0_wordFor cX0_wordFor 2 (some .int) { frames := 0, cells := 0, slots := 0, locals := 0 } [.ref a0, .int p0] [(a0, .inr (4, [.ref a1, .int len, .int ec, .int ep, .ref a2, .ref a3, .int wc, .int sl, .int pl, .int ki, .int ts, .int te, .int nu])), (a2, .inl (G.2.1.1, 256, .inl words))] (some (.int (f_X0_wordFor words p0))) [(a0, .inr (4, [.ref a1, .int len, .int ec, .int ep, .ref a2, .ref a3, .int wc, .int sl, .int pl, .int ki, .int ts, .int te, .int nu])), (a2, .inl (G.2.1.1, 256, .inl words))] 0 0 := by
  refine gBegin (by decide +kernel) (Nat.le_of_ble_eq_true rfl) (fun p e s m args below meth c A F hr hlocks hname hN hK hP hD hA hS ls hl => ?_)
  obtain ⟨hx, hb, hml, hown, hts⟩ := id F
  replace hP : va_P G.1 vwCl [(a0, .inr (4, [.ref a1, .int len, .int ec, .int ep, .ref a2, .ref a3, .int wc, .int sl, .int pl, .int ki, .int ts, .int te, .int nu])), (a2, .inl (G.2.1.1, 256, .inl words))] s.heap := hP
  replace hl : lv_has ls 2 [(0, .ref a0), (1, .int p0)] := hl
  refine lv_aload_n hx hb dX0_wordFor_0 rfl (lv_at hl 0 rfl) ?_
  refine va_get (D := G.1) (ci := 4) (v := .ref a2) (C := RX0) (T := TX0) (N := 13) hx hb hts in_X0 hown hK hP 0 rfl rfl 4 (by decide) (hts _ k_fl_X0_19) (fun _ h9 => h9) rfl dX0_wordFor_1 ?_
  refine lv_iload_n hx hb dX0_wordFor_4 rfl (lv_at hl 1 rfl) ?_
  refine lv_sipush (v := 255) hx hb dX0_wordFor_5 (by decide) ?_
  refine lv_iand hx hb dX0_wordFor_8 ?_
  refine va_iald hx hb hK hP 1 0 rfl rfl (pk_andIn _ 8 (by decide) (by decide)) dX0_wordFor_9 ?_
  exact gRetI F hr hlocks hK hP hD hS rfl rfl (Nat.le_of_ble_eq_true rfl) (Nat.le_of_ble_eq_true rfl) dX0_wordFor_10
theorem okV_X0_wordFor : gOkV yX0_wordFor cX0_wordFor 2 (some .int) 1 := ⟨⟨k_im_X0_wordFor, k_se_X0_wordFor, k_in_X0, k_cd_X0_wordFor⟩, by decide, by decide, by decide +kernel⟩
def f_X0_write (wc : Int32) (pl : Int32) (words : Nat → Int32) (wri : Nat → Int32) (p0 : Int32) : Int32 × Int32 × (Nat → Int32) × (Nat → Int32) :=
  ((wc + 1), (f_X0_placeAfter pl), (upd words (Int32.toNatClampNeg (pl &&& 255)) p0), (upd wri (Int32.toNatClampNeg (pl &&& 255)) (vp_nar .boolean 1)))
set_option maxRecDepth 100000 in
set_option maxHeartbeats 4000000 in
theorem c_X0_write (l : Launch) (G : gG) (a0 : Nat) (a1 : Nat) (a2 : Nat) (a3 : Nat) (len : Int32) (ec : Int32) (ep : Int32) (wc : Int32) (sl : Int32) (pl : Int32) (ki : Int32) (ts : Int32) (te : Int32) (nu : Int32) (words : Nat → Int32) (wri : Nat → Int32) (p0 : Int32) : gM l G yX0_write cX0_write 2 none { frames := 2, cells := 0, slots := 0, locals := 41 } [.ref a0, .int p0] [(a0, .inr (4, [.ref a1, .int len, .int ec, .int ep, .ref a2, .ref a3, .int wc, .int sl, .int pl, .int ki, .int ts, .int te, .int nu])), (a2, .inl (G.2.1.1, 256, .inl words)), (a3, .inl (G.2.1.2.1, 256, .inl wri))] none [(a0, .inr (4, [.ref a1, .int len, .int ec, .int ep, .ref a2, .ref a3, .int ((f_X0_write wc pl words wri p0).1), .int sl, .int ((f_X0_write wc pl words wri p0).2.1), .int ki, .int ts, .int te, .int nu])), (a2, .inl (G.2.1.1, 256, .inl ((f_X0_write wc pl words wri p0).2.2.1))), (a3, .inl (G.2.1.2.1, 256, .inl ((f_X0_write wc pl words wri p0).2.2.2)))] 0 0 := by
  refine gBegin (by decide +kernel) (Nat.le_of_ble_eq_true rfl) (fun p e s m args below meth c A F hr hlocks hname hN hK hP hD hA hS ls hl => ?_)
  obtain ⟨hx, hb, hml, hown, hts⟩ := id F
  replace hP : va_P G.1 vwCl [(a0, .inr (4, [.ref a1, .int len, .int ec, .int ep, .ref a2, .ref a3, .int wc, .int sl, .int pl, .int ki, .int ts, .int te, .int nu])), (a2, .inl (G.2.1.1, 256, .inl words)), (a3, .inl (G.2.1.2.1, 256, .inl wri))] s.heap := hP
  replace hl : lv_has ls 2 [(0, .ref a0), (1, .int p0)] := hl
  refine lv_aload_n hx hb dX0_write_0 rfl (lv_at hl 0 rfl) ?_
  refine va_get (D := G.1) (ci := 4) (v := .ref a2) (C := RX0) (T := TX0) (N := 13) hx hb hts in_X0 hown hK hP 0 rfl rfl 4 (by decide) (hts _ k_fl_X0_19) (fun _ h9 => h9) rfl dX0_write_1 ?_
  refine lv_aload_n hx hb dX0_write_4 rfl (lv_at hl 0 rfl) ?_
  refine va_get (D := G.1) (ci := 4) (v := .int pl) (C := RX0) (T := TX0) (N := 13) hx hb hts in_X0 hown hK hP 0 rfl rfl 8 (by decide) (hts _ k_fl_X0_57) (fun _ h9 => h9) rfl dX0_write_5 ?_
  refine lv_sipush (v := 255) hx hb dX0_write_8 (by decide) ?_
  refine lv_iand hx hb dX0_write_11 ?_
  refine lv_iload_n hx hb dX0_write_12 rfl (lv_at hl 1 rfl) ?_
  refine va_iast hx hb hK hP hD hS 1 0 rfl rfl (pk_andIn _ 8 (by decide) (by decide)) dX0_write_13 (fun H locs hP hD hS => ?_)
  replace hP : va_P G.1 vwCl [(a0, .inr (4, [.ref a1, .int len, .int ec, .int ep, .ref a2, .ref a3, .int wc, .int sl, .int pl, .int ki, .int ts, .int te, .int nu])), (a2, .inl (G.2.1.1, 256, .inl (upd words (Int32.toNatClampNeg (pl &&& 255)) p0))), (a3, .inl (G.2.1.2.1, 256, .inl wri))] H := hP
  replace hD : va_D A [(a0, .inr (4, [.ref a1, .int len, .int ec, .int ep, .ref a2, .ref a3, .int wc, .int sl, .int pl, .int ki, .int ts, .int te, .int nu])), (a2, .inl (G.2.1.1, 256, .inl (upd words (Int32.toNatClampNeg (pl &&& 255)) p0))), (a3, .inl (G.2.1.2.1, 256, .inl wri))] := hD
  refine lv_aload_n hx hb dX0_write_14 rfl (lv_at hl 0 rfl) ?_
  refine va_get (D := G.1) (ci := 4) (v := .ref a3) (C := RX0) (T := TX0) (N := 13) hx hb hts in_X0 hown hK hP 0 rfl rfl 5 (by decide) (hts _ k_fl_X0_22) (fun _ h9 => h9) rfl dX0_write_15 ?_
  refine lv_aload_n hx hb dX0_write_18 rfl (lv_at hl 0 rfl) ?_
  refine va_get (D := G.1) (ci := 4) (v := .int pl) (C := RX0) (T := TX0) (N := 13) hx hb hts in_X0 hown hK hP 0 rfl rfl 8 (by decide) (hts _ k_fl_X0_57) (fun _ h9 => h9) rfl dX0_write_19 ?_
  refine lv_sipush (v := 255) hx hb dX0_write_22 (by decide) ?_
  refine lv_iand hx hb dX0_write_25 ?_
  refine lv_iconst (v := 1) hx hb dX0_write_26 (by decide) ?_
  refine va_zast hx hb hK hP hD hS 2 1 rfl rfl (pk_andIn _ 8 (by decide) (by decide)) dX0_write_27 (fun H locs hP hD hS => ?_)
  replace hP : va_P G.1 vwCl [(a0, .inr (4, [.ref a1, .int len, .int ec, .int ep, .ref a2, .ref a3, .int wc, .int sl, .int pl, .int ki, .int ts, .int te, .int nu])), (a2, .inl (G.2.1.1, 256, .inl (upd words (Int32.toNatClampNeg (pl &&& 255)) p0))), (a3, .inl (G.2.1.2.1, 256, .inl (upd wri (Int32.toNatClampNeg (pl &&& 255)) (vp_nar .boolean 1))))] H := hP
  replace hD : va_D A [(a0, .inr (4, [.ref a1, .int len, .int ec, .int ep, .ref a2, .ref a3, .int wc, .int sl, .int pl, .int ki, .int ts, .int te, .int nu])), (a2, .inl (G.2.1.1, 256, .inl (upd words (Int32.toNatClampNeg (pl &&& 255)) p0))), (a3, .inl (G.2.1.2.1, 256, .inl (upd wri (Int32.toNatClampNeg (pl &&& 255)) (vp_nar .boolean 1))))] := hD
  refine lv_aload_n hx hb dX0_write_28 rfl (lv_at hl 0 rfl) ?_
  refine lv_dup hx hb dX0_write_29 rfl ?_
  refine va_get (D := G.1) (ci := 4) (v := .int wc) (C := RX0) (T := TX0) (N := 13) hx hb hts in_X0 hown hK hP 0 rfl rfl 6 (by decide) (hts _ k_fl_X0_77) (fun _ h9 => h9) rfl dX0_write_30 ?_
  refine lv_iconst (v := 1) hx hb dX0_write_33 (by decide) ?_
  refine lv_iadd hx hb dX0_write_34 ?_
  refine va_put (D := G.1) (ci := 4) (v := .int (wc + 1)) (ty := .int) (C := RX0) (T := TX0) (N := 13) hx hb hts in_X0 tyX0 tyX0_ok nmX0 hown hK hP hD hS 0 rfl rfl 6 (by decide) (hts _ k_fl_X0_77) (fun _ h9 => h9) rfl (by decide +kernel) rfl rfl (Nat.le_of_ble_eq_true rfl) dX0_write_35 (fun H locs hP hD hS => ?_)
  replace hP : va_P G.1 vwCl [(a0, .inr (4, [.ref a1, .int len, .int ec, .int ep, .ref a2, .ref a3, .int (wc + 1), .int sl, .int pl, .int ki, .int ts, .int te, .int nu])), (a2, .inl (G.2.1.1, 256, .inl (upd words (Int32.toNatClampNeg (pl &&& 255)) p0))), (a3, .inl (G.2.1.2.1, 256, .inl (upd wri (Int32.toNatClampNeg (pl &&& 255)) (vp_nar .boolean 1))))] H := hP
  replace hD : va_D A [(a0, .inr (4, [.ref a1, .int len, .int ec, .int ep, .ref a2, .ref a3, .int (wc + 1), .int sl, .int pl, .int ki, .int ts, .int te, .int nu])), (a2, .inl (G.2.1.1, 256, .inl (upd words (Int32.toNatClampNeg (pl &&& 255)) p0))), (a3, .inl (G.2.1.2.1, 256, .inl (upd wri (Int32.toNatClampNeg (pl &&& 255)) (vp_nar .boolean 1))))] := hD
  refine lv_aload_n hx hb dX0_write_38 rfl (lv_at hl 0 rfl) ?_
  refine lv_aload_n hx hb dX0_write_39 rfl (lv_at hl 0 rfl) ?_
  refine gV (As := []) (rest := [.ref a0]) (wr := [(a2, .inl (G.2.1.1, 256, .inl (upd words (Int32.toNatClampNeg (pl &&& 255)) p0))), (a3, .inl (G.2.1.2.1, 256, .inl (upd wri (Int32.toNatClampNeg (pl &&& 255)) (vp_nar .boolean 1))))]) (ws' := [(a0, .inr (4, [.ref a1, .int len, .int ec, .int ep, .ref a2, .ref a3, .int (wc + 1), .int sl, .int pl, .int ki, .int ts, .int te, .int nu])), (a2, .inl (G.2.1.1, 256, .inl (upd words (Int32.toNatClampNeg (pl &&& 255)) p0))), (a3, .inl (G.2.1.2.1, 256, .inl (upd wri (Int32.toNatClampNeg (pl &&& 255)) (vp_nar .boolean 1))))]) F (c_X0_placeAfter l G a0 a1 a2 a3 len ec ep (wc + 1) sl pl ki ts te nu) okV_X0_placeAfter k_ml_X0_100 rfl rfl ⟨Nat.le_of_ble_eq_true rfl, Nat.le_of_ble_eq_true rfl⟩ hN hK hP hD hS hA [0] [1, 2] [2, 0, 1] (by decide) rfl rfl (by decide) (by decide) (by decide) rfl (q0 := 0) rfl rfl rfl rfl hl.1 (Nat.le_of_ble_eq_true rfl) dX0_write_40 ⟨Nat.le_refl _, Nat.le_refl _⟩ (fun H locs hP hD hS => ?_)
  refine va_put (D := G.1) (ci := 4) (v := .int (f_X0_placeAfter pl)) (ty := .int) (C := RX0) (T := TX0) (N := 13) hx hb hts in_X0 tyX0 tyX0_ok nmX0 hown hK hP hD hS 0 rfl rfl 8 (by decide) (hts _ k_fl_X0_57) (fun _ h9 => h9) rfl (by decide +kernel) rfl rfl (Nat.le_of_ble_eq_true rfl) dX0_write_43 (fun H locs hP hD hS => ?_)
  replace hP : va_P G.1 vwCl [(a0, .inr (4, [.ref a1, .int len, .int ec, .int ep, .ref a2, .ref a3, .int (wc + 1), .int sl, .int (f_X0_placeAfter pl), .int ki, .int ts, .int te, .int nu])), (a2, .inl (G.2.1.1, 256, .inl (upd words (Int32.toNatClampNeg (pl &&& 255)) p0))), (a3, .inl (G.2.1.2.1, 256, .inl (upd wri (Int32.toNatClampNeg (pl &&& 255)) (vp_nar .boolean 1))))] H := hP
  replace hD : va_D A [(a0, .inr (4, [.ref a1, .int len, .int ec, .int ep, .ref a2, .ref a3, .int (wc + 1), .int sl, .int (f_X0_placeAfter pl), .int ki, .int ts, .int te, .int nu])), (a2, .inl (G.2.1.1, 256, .inl (upd words (Int32.toNatClampNeg (pl &&& 255)) p0))), (a3, .inl (G.2.1.2.1, 256, .inl (upd wri (Int32.toNatClampNeg (pl &&& 255)) (vp_nar .boolean 1))))] := hD
  exact gRetV F hr hlocks hK hP hD hS rfl rfl (Nat.le_of_ble_eq_true rfl) (Nat.le_of_ble_eq_true rfl) dX0_write_46
theorem okV_X0_write : gOkV yX0_write cX0_write 2 none 1 := ⟨⟨k_im_X0_write, k_se_X0_write, k_in_X0, k_cd_X0_write⟩, by decide, by decide, by decide +kernel⟩
def f_X0_refuseWrittenPlace (ec : Int32) (ep : Int32) (pl : Int32) (ts : Int32) (wri : Nat → Int32) : Int32 × Int32 :=
  if (f_X0_isWritten wri pl) = 0 then
    (ec, ep)
  else
    ((f_X0_fail ec ep ts 3).1, (f_X0_fail ec ep ts 3).2)
set_option maxRecDepth 100000 in
set_option maxHeartbeats 4000000 in
theorem c_X0_refuseWrittenPlace (l : Launch) (G : gG) (a0 : Nat) (a1 : Nat) (a2 : Nat) (a3 : Nat) (len : Int32) (ec : Int32) (ep : Int32) (wc : Int32) (sl : Int32) (pl : Int32) (ki : Int32) (ts : Int32) (te : Int32) (nu : Int32) (wri : Nat → Int32) (hwri : ∀ i : Nat, g01 (wri i)) : gM l G yX0_refuseWrittenPlace cX0_refuseWrittenPlace 1 none { frames := 1, cells := 0, slots := 0, locals := 21 } [.ref a0] [(a0, .inr (4, [.ref a1, .int len, .int ec, .int ep, .ref a2, .ref a3, .int wc, .int sl, .int pl, .int ki, .int ts, .int te, .int nu])), (a3, .inl (G.2.1.2.1, 256, .inl wri))] none [(a0, .inr (4, [.ref a1, .int len, .int ((f_X0_refuseWrittenPlace ec ep pl ts wri).1), .int ((f_X0_refuseWrittenPlace ec ep pl ts wri).2), .ref a2, .ref a3, .int wc, .int sl, .int pl, .int ki, .int ts, .int te, .int nu])), (a3, .inl (G.2.1.2.1, 256, .inl wri))] 0 0 := by
  refine gBegin (by decide +kernel) (Nat.le_of_ble_eq_true rfl) (fun p e s m args below meth c A F hr hlocks hname hN hK hP hD hA hS ls hl => ?_)
  obtain ⟨hx, hb, hml, hown, hts⟩ := id F
  replace hP : va_P G.1 vwCl [(a0, .inr (4, [.ref a1, .int len, .int ec, .int ep, .ref a2, .ref a3, .int wc, .int sl, .int pl, .int ki, .int ts, .int te, .int nu])), (a3, .inl (G.2.1.2.1, 256, .inl wri))] s.heap := hP
  replace hl : lv_has ls 1 [(0, .ref a0)] := hl
  refine lv_aload_n hx hb dX0_refuseWrittenPlace_0 rfl (lv_at hl 0 rfl) ?_
  refine lv_aload_n hx hb dX0_refuseWrittenPlace_1 rfl (lv_at hl 0 rfl) ?_
  refine va_get (D := G.1) (ci := 4) (v := .int pl) (C := RX0) (T := TX0) (N := 13) hx hb hts in_X0 hown hK hP 0 rfl rfl 8 (by decide) (hts _ k_fl_X0_57) (fun _ h9 => h9) rfl dX0_refuseWrittenPlace_2 ?_
  refine gV (As := [.int pl]) (rest := []) (wr := []) (ws' := [(a0, .inr (4, [.ref a1, .int len, .int ec, .int ep, .ref a2, .ref a3, .int wc, .int sl, .int pl, .int ki, .int ts, .int te, .int nu])), (a3, .inl (G.2.1.2.1, 256, .inl wri))]) F (c_X0_isWritten l G a0 a1 a2 a3 len ec ep wc sl pl ki ts te nu wri pl hwri) okV_X0_isWritten k_ml_X0_116 rfl rfl ⟨Nat.le_of_ble_eq_true rfl, Nat.le_of_ble_eq_true rfl⟩ hN hK hP hD hS hA [0, 1] [] [0, 1] (by decide) rfl rfl (by decide) (by decide) (by decide) rfl (q0 := 0) rfl rfl rfl rfl hl.1 (Nat.le_of_ble_eq_true rfl) dX0_refuseWrittenPlace_5 ⟨Nat.le_refl _, Nat.le_refl _⟩ (fun H locs hP hD hS => ?_)
  refine lv_if_eq (tgt := 16) hx hb dX0_refuseWrittenPlace_8 (by decide) (fun c_1 => ?_) (fun c_1 => ?_)
  · skip
    have ef : (f_X0_refuseWrittenPlace ec ep pl ts wri) = (ec, ep) := (if_pos c_1)
    exact gRetV F hr hlocks hK hP hD hS rfl (by rw [ef]) (Nat.le_of_ble_eq_true rfl) (Nat.le_of_ble_eq_true rfl) dX0_refuseWrittenPlace_16
  · skip
    refine lv_aload_n hx hb dX0_refuseWrittenPlace_11 rfl (lv_at hl 0 rfl) ?_
    refine lv_iconst (v := 3) hx hb dX0_refuseWrittenPlace_12 (by decide) ?_
    refine gV (As := [.int 3]) (rest := []) (wr := [(a3, .inl (G.2.1.2.1, 256, .inl wri))]) (ws' := [(a0, .inr (4, [.ref a1, .int len, .int ((f_X0_fail ec ep ts 3).1), .int ((f_X0_fail ec ep ts 3).2), .ref a2, .ref a3, .int wc, .int sl, .int pl, .int ki, .int ts, .int te, .int nu])), (a3, .inl (G.2.1.2.1, 256, .inl wri))]) F (c_X0_fail l G a0 a1 a2 a3 len ec ep wc sl pl ki ts te nu 3) okV_X0_fail k_ml_X0_71 rfl rfl ⟨Nat.le_of_ble_eq_true rfl, Nat.le_of_ble_eq_true rfl⟩ hN hK hP hD hS hA [0] [1] [1, 0] (by decide) rfl rfl (by decide) (by decide) (by decide) rfl (q0 := 0) rfl rfl rfl rfl hl.1 (Nat.le_of_ble_eq_true rfl) dX0_refuseWrittenPlace_13 ⟨Nat.le_refl _, Nat.le_refl _⟩ (fun H locs hP hD hS => ?_)
    have ef : (f_X0_refuseWrittenPlace ec ep pl ts wri) = ((f_X0_fail ec ep ts 3).1, (f_X0_fail ec ep ts 3).2) := (if_neg c_1)
    exact gRetV F hr hlocks hK hP hD hS rfl (by rw [ef]) (Nat.le_of_ble_eq_true rfl) (Nat.le_of_ble_eq_true rfl) dX0_refuseWrittenPlace_16
theorem okV_X0_refuseWrittenPlace : gOkV yX0_refuseWrittenPlace cX0_refuseWrittenPlace 1 none 0 := ⟨⟨k_im_X0_refuseWrittenPlace, k_se_X0_refuseWrittenPlace, k_in_X0, k_cd_X0_refuseWrittenPlace⟩, by decide, by decide, by decide +kernel⟩
def f_X0_readNumber (len : Int32) (ec : Int32) (ep : Int32) (ki : Int32) (ts : Int32) (te : Int32) (nu : Int32) (text : Nat → Int32) (p0 : Int32) : Int32 × Int32 × Int32 × Int32 × Int32 × Int32 × Int32 :=
  if ki = 2 then
    if nu ≤ p0 then
      let t3 := (f_X0_readToken len ki te nu text)
      (nu, ec, ep, t3.1, t3.2.1, t3.2.2.1, t3.2.2.2)
    else
      let t4 := (f_X0_fail ec ep ts 2)
      (0, t4.1, t4.2, ki, ts, te, nu)
  else
    let t5 := (f_X0_fail ec ep ts 1)
    (0, t5.1, t5.2, ki, ts, te, nu)
set_option maxRecDepth 100000 in
set_option maxHeartbeats 4000000 in
theorem c_X0_readNumber (l : Launch) (G : gG) (a0 : Nat) (a1 : Nat) (a2 : Nat) (a3 : Nat) (len : Int32) (ec : Int32) (ep : Int32) (wc : Int32) (sl : Int32) (pl : Int32) (ki : Int32) (ts : Int32) (te : Int32) (nu : Int32) (text : Nat → Int32) (p0 : Int32) : gM l G yX0_readNumber cX0_readNumber 3 (some .int) { frames := 3, cells := 0, slots := 0, locals := 62 } [.ref a0, .int p0] [(a0, .inr (4, [.ref a1, .int len, .int ec, .int ep, .ref a2, .ref a3, .int wc, .int sl, .int pl, .int ki, .int ts, .int te, .int nu])), (a1, .inl (G.2.1.1, 600, .inl text))] (some (.int ((f_X0_readNumber len ec ep ki ts te nu text p0).1))) [(a0, .inr (4, [.ref a1, .int len, .int ((f_X0_readNumber len ec ep ki ts te nu text p0).2.1), .int ((f_X0_readNumber len ec ep ki ts te nu text p0).2.2.1), .ref a2, .ref a3, .int wc, .int sl, .int pl, .int ((f_X0_readNumber len ec ep ki ts te nu text p0).2.2.2.1), .int ((f_X0_readNumber len ec ep ki ts te nu text p0).2.2.2.2.1), .int ((f_X0_readNumber len ec ep ki ts te nu text p0).2.2.2.2.2.1), .int ((f_X0_readNumber len ec ep ki ts te nu text p0).2.2.2.2.2.2)])), (a1, .inl (G.2.1.1, 600, .inl text))] 0 0 := by
  refine gBegin (by decide +kernel) (Nat.le_of_ble_eq_true rfl) (fun p e s m args below meth c A F hr hlocks hname hN hK hP hD hA hS ls hl => ?_)
  obtain ⟨hx, hb, hml, hown, hts⟩ := id F
  replace hP : va_P G.1 vwCl [(a0, .inr (4, [.ref a1, .int len, .int ec, .int ep, .ref a2, .ref a3, .int wc, .int sl, .int pl, .int ki, .int ts, .int te, .int nu])), (a1, .inl (G.2.1.1, 600, .inl text))] s.heap := hP
  replace hl : lv_has ls 3 [(0, .ref a0), (1, .int p0)] := hl
  refine lv_aload_n hx hb dX0_readNumber_0 rfl (lv_at hl 0 rfl) ?_
  refine va_get (D := G.1) (ci := 4) (v := .int ki) (C := RX0) (T := TX0) (N := 13) hx hb hts in_X0 hown hK hP 0 rfl rfl 9 (by decide) (hts _ k_fl_X0_38) (fun _ h9 => h9) rfl dX0_readNumber_1 ?_
  refine lv_iconst (v := 2) hx hb dX0_readNumber_4 (by decide) ?_
  refine lv_icmp_eq (tgt := 15) hx hb dX0_readNumber_5 (by decide) (fun c_1 => ?_) (fun c_1 => ?_)
  · skip
    refine lv_aload_n hx hb dX0_readNumber_15 rfl (lv_at hl 0 rfl) ?_
    refine va_get (D := G.1) (ci := 4) (v := .int nu) (C := RX0) (T := TX0) (N := 13) hx hb hts in_X0 hown hK hP 0 rfl rfl 12 (by decide) (hts _ k_fl_X0_113) (fun _ h9 => h9) rfl dX0_readNumber_16 ?_
    refine lv_iload_n hx hb dX0_readNumber_19 rfl (lv_at hl 1 rfl) ?_
    refine lv_icmp_le (tgt := 30) hx hb dX0_readNumber_20 (by decide) (fun c_2 => ?_) (fun c_2 => ?_)
    · skip
      refine lv_aload_n hx hb dX0_readNumber_30 rfl (lv_at hl 0 rfl) ?_
      refine va_get (D := G.1) (ci := 4) (v := .int nu) (C := RX0) (T := TX0) (N := 13) hx hb hts in_X0 hown hK hP 0 rfl rfl 12 (by decide) (hts _ k_fl_X0_113) (fun _ h9 => h9) rfl dX0_readNumber_31 ?_
      refine lv_istore_n (lv' := [(2, .int nu), (0, .ref a0), (1, .int p0)]) hx hb dX0_readNumber_34 rfl hl (by decide) rfl (fun ls hl => ?_)
      refine lv_aload_n hx hb dX0_readNumber_35 rfl (lv_at hl 1 rfl) ?_
      refine gV (As := []) (rest := []) (wr := []) (ws' := [(a0, .inr (4, [.ref a1, .int len, .int ec, .int ep, .ref a2, .ref a3, .int wc, .int sl, .int pl, .int ((f_X0_readToken len ki te nu text).1), .int ((f_X0_readToken len ki te nu text).2.1), .int ((f_X0_readToken len ki te nu text).2.2.1), .int ((f_X0_readToken len ki te nu text).2.2.2)])), (a1, .inl (G.2.1.1, 600, .inl text))]) F (c_X0_readToken l G a0 a1 a2 a3 len ec ep wc sl pl ki ts te nu text) okV_X0_readToken k_ml_X0_35 rfl rfl ⟨Nat.le_of_ble_eq_true rfl, Nat.le_of_ble_eq_true rfl⟩ hN hK hP hD hS hA [0, 1] [] [0, 1] (by decide) rfl rfl (by decide) (by decide) (by decide) rfl (q0 := 0) rfl rfl rfl rfl hl.1 (Nat.le_of_ble_eq_true rfl) dX0_readNumber_36 ⟨Nat.le_refl _, Nat.le_refl _⟩ (fun H locs hP hD hS => ?_)
      generalize et3 : (f_X0_readToken len ki te nu text) = t3 at hP hD ⊢
      refine lv_iload_n hx hb dX0_readNumber_39 rfl (lv_at hl 0 rfl) ?_
      have ef : (f_X0_readNumber len ec ep ki ts te nu text p0) = (nu, ec, ep, t3.1, t3.2.1, t3.2.2.1, t3.2.2.2) := (by subst et3; exact ((if_pos c_1).trans (if_pos c_2)))
      exact gRetI F hr hlocks hK hP hD hS (by rw [ef]) (by rw [ef]) (Nat.le_of_ble_eq_true rfl) (Nat.le_of_ble_eq_true rfl) dX0_readNumber_40
    · skip
      refine lv_aload_n hx hb dX0_readNumber_23 rfl (lv_at hl 0 rfl) ?_
      refine lv_iconst (v := 2) hx hb dX0_readNumber_24 (by decide) ?_
      refine gV (As := [.int 2]) (rest := []) (wr := [(a1, .inl (G.2.1.1, 600, .inl text))]) (ws' := [(a0, .inr (4, [.ref a1, .int len, .int ((f_X0_fail ec ep ts 2).1), .int ((f_X0_fail ec ep ts 2).2), .ref a2, .ref a3, .int wc, .int sl, .int pl, .int ki, .int ts, .int te, .int nu])), (a1, .inl (G.2.1.1, 600, .inl text))]) F (c_X0_fail l G a0 a1 a2 a3 len ec ep wc sl pl ki ts te nu 2) okV_X0_fail k_ml_X0_71 rfl rfl ⟨Nat.le_of_ble_eq_true rfl, Nat.le_of_ble_eq_true rfl⟩ hN hK hP hD hS hA [0] [1] [1, 0] (by decide) rfl rfl (by decide) (by decide) (by decide) rfl (q0 := 0) rfl rfl rfl rfl hl.1 (Nat.le_of_ble_eq_true rfl) dX0_readNumber_25 ⟨Nat.le_refl _, Nat.le_refl _⟩ (fun H locs hP hD hS => ?_)
      generalize et4 : (f_X0_fail ec ep ts 2) = t4 at hP hD ⊢
      refine lv_iconst (v := 0) hx hb dX0_readNumber_28 (by decide) ?_
      have ef : (f_X0_readNumber len ec ep ki ts te nu text p0) = (0, t4.1, t4.2, ki, ts, te, nu) := (by subst et4; exact ((if_pos c_1).trans (if_neg c_2)))
      exact gRetI F hr hlocks hK hP hD hS (by rw [ef]) (by rw [ef]) (Nat.le_of_ble_eq_true rfl) (Nat.le_of_ble_eq_true rfl) dX0_readNumber_29
  · skip
    refine lv_aload_n hx hb dX0_readNumber_8 rfl (lv_at hl 0 rfl) ?_
    refine lv_iconst (v := 1) hx hb dX0_readNumber_9 (by decide) ?_
    refine gV (As := [.int 1]) (rest := []) (wr := [(a1, .inl (G.2.1.1, 600, .inl text))]) (ws' := [(a0, .inr (4, [.ref a1, .int len, .int ((f_X0_fail ec ep ts 1).1), .int ((f_X0_fail ec ep ts 1).2), .ref a2, .ref a3, .int wc, .int sl, .int pl, .int ki, .int ts, .int te, .int nu])), (a1, .inl (G.2.1.1, 600, .inl text))]) F (c_X0_fail l G a0 a1 a2 a3 len ec ep wc sl pl ki ts te nu 1) okV_X0_fail k_ml_X0_71 rfl rfl ⟨Nat.le_of_ble_eq_true rfl, Nat.le_of_ble_eq_true rfl⟩ hN hK hP hD hS hA [0] [1] [1, 0] (by decide) rfl rfl (by decide) (by decide) (by decide) rfl (q0 := 0) rfl rfl rfl rfl hl.1 (Nat.le_of_ble_eq_true rfl) dX0_readNumber_10 ⟨Nat.le_refl _, Nat.le_refl _⟩ (fun H locs hP hD hS => ?_)
    generalize et5 : (f_X0_fail ec ep ts 1) = t5 at hP hD ⊢
    refine lv_iconst (v := 0) hx hb dX0_readNumber_13 (by decide) ?_
    have ef : (f_X0_readNumber len ec ep ki ts te nu text p0) = (0, t5.1, t5.2, ki, ts, te, nu) := (by subst et5; exact (if_neg c_1))
    exact gRetI F hr hlocks hK hP hD hS (by rw [ef]) (by rw [ef]) (Nat.le_of_ble_eq_true rfl) (Nat.le_of_ble_eq_true rfl) dX0_readNumber_14
theorem okV_X0_readNumber : gOkV yX0_readNumber cX0_readNumber 3 (some .int) 1 := ⟨⟨k_im_X0_readNumber, k_se_X0_readNumber, k_in_X0, k_cd_X0_readNumber⟩, by decide, by decide, by decide +kernel⟩
def f_X0_readSymbol (len : Int32) (ec : Int32) (ep : Int32) (ki : Int32) (ts : Int32) (te : Int32) (nu : Int32) (text : Nat → Int32) (p0 : Int32) : Int32 × Int32 × Int32 × Int32 × Int32 × Int32 :=
  if ki = p0 then
    let t3 := (f_X0_readToken len ki te nu text)
    (ec, ep, t3.1, t3.2.1, t3.2.2.1, t3.2.2.2)
  else
    let t2 := (f_X0_fail ec ep ts 1)
    (t2.1, t2.2, ki, ts, te, nu)
set_option maxRecDepth 100000 in
set_option maxHeartbeats 4000000 in
theorem c_X0_readSymbol (l : Launch) (G : gG) (a0 : Nat) (a1 : Nat) (a2 : Nat) (a3 : Nat) (len : Int32) (ec : Int32) (ep : Int32) (wc : Int32) (sl : Int32) (pl : Int32) (ki : Int32) (ts : Int32) (te : Int32) (nu : Int32) (text : Nat → Int32) (p0 : Int32) : gM l G yX0_readSymbol cX0_readSymbol 2 none { frames := 3, cells := 0, slots := 0, locals := 62 } [.ref a0, .int p0] [(a0, .inr (4, [.ref a1, .int len, .int ec, .int ep, .ref a2, .ref a3, .int wc, .int sl, .int pl, .int ki, .int ts, .int te, .int nu])), (a1, .inl (G.2.1.1, 600, .inl text))] none [(a0, .inr (4, [.ref a1, .int len, .int ((f_X0_readSymbol len ec ep ki ts te nu text p0).1), .int ((f_X0_readSymbol len ec ep ki ts te nu text p0).2.1), .ref a2, .ref a3, .int wc, .int sl, .int pl, .int ((f_X0_readSymbol len ec ep ki ts te nu text p0).2.2.1), .int ((f_X0_readSymbol len ec ep ki ts te nu text p0).2.2.2.1), .int ((f_X0_readSymbol len ec ep ki ts te nu text p0).2.2.2.2.1), .int ((f_X0_readSymbol len ec ep ki ts te nu text p0).2.2.2.2.2)])), (a1, .inl (G.2.1.1, 600, .inl text))] 0 0 := by
  refine gBegin (by decide +kernel) (Nat.le_of_ble_eq_true rfl) (fun p e s m args below meth c A F hr hlocks hname hN hK hP hD hA hS ls hl => ?_)
  obtain ⟨hx, hb, hml, hown, hts⟩ := id F
  replace hP : va_P G.1 vwCl [(a0, .inr (4, [.ref a1, .int len, .int ec, .int ep, .ref a2, .ref a3, .int wc, .int sl, .int pl, .int ki, .int ts, .int te, .int nu])), (a1, .inl (G.2.1.1, 600, .inl text))] s.heap := hP
  replace hl : lv_has ls 2 [(0, .ref a0), (1, .int p0)] := hl
  refine lv_aload_n hx hb dX0_readSymbol_0 rfl (lv_at hl 0 rfl) ?_
  refine va_get (D := G.1) (ci := 4) (v := .int ki) (C := RX0) (T := TX0) (N := 13) hx hb hts in_X0 hown hK hP 0 rfl rfl 9 (by decide) (hts _ k_fl_X0_38) (fun _ h9 => h9) rfl dX0_readSymbol_1 ?_
  refine lv_iload_n hx hb dX0_readSymbol_4 rfl (lv_at hl 1 rfl) ?_
  refine lv_icmp_ne (tgt := 15) hx hb dX0_readSymbol_5 (by decide) (fun c_1 => ?_) (fun c_1 => ?_)
  · skip
    refine lv_aload_n hx hb dX0_readSymbol_15 rfl (lv_at hl 0 rfl) ?_
    refine lv_iconst (v := 1) hx hb dX0_readSymbol_16 (by decide) ?_
    refine gV (As := [.int 1]) (rest := []) (wr := [(a1, .inl (G.2.1.1, 600, .inl text))]) (ws' := [(a0, .inr (4, [.ref a1, .int len, .int ((f_X0_fail ec ep ts 1).1), .int ((f_X0_fail ec ep ts 1).2), .ref a2, .ref a3, .int wc, .int sl, .int pl, .int ki, .int ts, .int te, .int nu])), (a1, .inl (G.2.1.1, 600, .inl text))]) F (c_X0_fail l G a0 a1 a2 a3 len ec ep wc sl pl ki ts te nu 1) okV_X0_fail k_ml_X0_71 rfl rfl ⟨Nat.le_of_ble_eq_true rfl, Nat.le_of_ble_eq_true rfl⟩ hN hK hP hD hS hA [0] [1] [1, 0] (by decide) rfl rfl (by decide) (by decide) (by decide) rfl (q0 := 0) rfl rfl rfl rfl hl.1 (Nat.le_of_ble_eq_true rfl) dX0_readSymbol_17 ⟨Nat.le_refl _, Nat.le_refl _⟩ (fun H locs hP hD hS => ?_)
    generalize et2 : (f_X0_fail ec ep ts 1) = t2 at hP hD ⊢
    have ef : (f_X0_readSymbol len ec ep ki ts te nu text p0) = (t2.1, t2.2, ki, ts, te, nu) := (by subst et2; exact (if_neg c_1))
    exact gRetV F hr hlocks hK hP hD hS rfl (by rw [ef]) (Nat.le_of_ble_eq_true rfl) (Nat.le_of_ble_eq_true rfl) dX0_readSymbol_20
  · skip
    refine lv_aload_n hx hb dX0_readSymbol_8 rfl (lv_at hl 0 rfl) ?_
    refine gV (As := []) (rest := []) (wr := []) (ws' := [(a0, .inr (4, [.ref a1, .int len, .int ec, .int ep, .ref a2, .ref a3, .int wc, .int sl, .int pl, .int ((f_X0_readToken len ki te nu text).1), .int ((f_X0_readToken len ki te nu text).2.1), .int ((f_X0_readToken len ki te nu text).2.2.1), .int ((f_X0_readToken len ki te nu text).2.2.2)])), (a1, .inl (G.2.1.1, 600, .inl text))]) F (c_X0_readToken l G a0 a1 a2 a3 len ec ep wc sl pl ki ts te nu text) okV_X0_readToken k_ml_X0_35 rfl rfl ⟨Nat.le_of_ble_eq_true rfl, Nat.le_of_ble_eq_true rfl⟩ hN hK hP hD hS hA [0, 1] [] [0, 1] (by decide) rfl rfl (by decide) (by decide) (by decide) rfl (q0 := 0) rfl rfl rfl rfl hl.1 (Nat.le_of_ble_eq_true rfl) dX0_readSymbol_9 ⟨Nat.le_refl _, Nat.le_refl _⟩ (fun H locs hP hD hS => ?_)
    generalize et3 : (f_X0_readToken len ki te nu text) = t3 at hP hD ⊢
    refine lv_goto (tgt := 20) hx hb dX0_readSymbol_12 (by decide) ?_
    have ef : (f_X0_readSymbol len ec ep ki ts te nu text p0) = (ec, ep, t3.1, t3.2.1, t3.2.2.1, t3.2.2.2) := (by subst et3; exact (if_pos c_1))
    exact gRetV F hr hlocks hK hP hD hS rfl (by rw [ef]) (Nat.le_of_ble_eq_true rfl) (Nat.le_of_ble_eq_true rfl) dX0_readSymbol_20
theorem okV_X0_readSymbol : gOkV yX0_readSymbol cX0_readSymbol 2 none 1 := ⟨⟨k_im_X0_readSymbol, k_se_X0_readSymbol, k_in_X0, k_cd_X0_readSymbol⟩, by decide, by decide, by decide +kernel⟩
def f_X0_readLocation (len : Int32) (ec : Int32) (ep : Int32) (ki : Int32) (ts : Int32) (te : Int32) (nu : Int32) (text : Nat → Int32) : Int32 × Int32 × Int32 × Int32 × Int32 × Int32 × Int32 :=
  let t1 := (f_X0_readNumber len ec ep ki ts te nu text 7)
  let t2 := (f_X0_readSymbol len t1.2.1 t1.2.2.1 t1.2.2.2.1 t1.2.2.2.2.1 t1.2.2.2.2.2.1 t1.2.2.2.2.2.2 text 46)
  let t3 := (f_X0_readNumber len t2.1 t2.2.1 t2.2.2.1 t2.2.2.2.1 t2.2.2.2.2.1 t2.2.2.2.2.2 text 31)
  ((f_X6_locationOf t1.1 t3.1), t3.2.1, t3.2.2.1, t3.2.2.2.1, t3.2.2.2.2.1, t3.2.2.2.2.2.1, t3.2.2.2.2.2.2)
set_option maxRecDepth 100000 in
set_option maxHeartbeats 4000000 in
theorem c_X0_readLocation (l : Launch) (G : gG) (a0 : Nat) (a1 : Nat) (a2 : Nat) (a3 : Nat) (len : Int32) (ec : Int32) (ep : Int32) (wc : Int32) (sl : Int32) (pl : Int32) (ki : Int32) (ts : Int32) (te : Int32) (nu : Int32) (text : Nat → Int32) : gM l G yX0_readLocation cX0_readLocation 3 (some .int) { frames := 4, cells := 0, slots := 0, locals := 84 } [.ref a0] [(a0, .inr (4, [.ref a1, .int len, .int ec, .int ep, .ref a2, .ref a3, .int wc, .int sl, .int pl, .int ki, .int ts, .int te, .int nu])), (a1, .inl (G.2.1.1, 600, .inl text))] (some (.int ((f_X0_readLocation len ec ep ki ts te nu text).1))) [(a0, .inr (4, [.ref a1, .int len, .int ((f_X0_readLocation len ec ep ki ts te nu text).2.1), .int ((f_X0_readLocation len ec ep ki ts te nu text).2.2.1), .ref a2, .ref a3, .int wc, .int sl, .int pl, .int ((f_X0_readLocation len ec ep ki ts te nu text).2.2.2.1), .int ((f_X0_readLocation len ec ep ki ts te nu text).2.2.2.2.1), .int ((f_X0_readLocation len ec ep ki ts te nu text).2.2.2.2.2.1), .int ((f_X0_readLocation len ec ep ki ts te nu text).2.2.2.2.2.2)])), (a1, .inl (G.2.1.1, 600, .inl text))] 0 0 := by
  refine gBegin (by decide +kernel) (Nat.le_of_ble_eq_true rfl) (fun p e s m args below meth c A F hr hlocks hname hN hK hP hD hA hS ls hl => ?_)
  obtain ⟨hx, hb, hml, hown, hts⟩ := id F
  replace hP : va_P G.1 vwCl [(a0, .inr (4, [.ref a1, .int len, .int ec, .int ep, .ref a2, .ref a3, .int wc, .int sl, .int pl, .int ki, .int ts, .int te, .int nu])), (a1, .inl (G.2.1.1, 600, .inl text))] s.heap := hP
  replace hl : lv_has ls 3 [(0, .ref a0)] := hl
  refine lv_aload_n hx hb dX0_readLocation_0 rfl (lv_at hl 0 rfl) ?_
  refine lv_bipush (v := 7) hx hb dX0_readLocation_1 (by decide) ?_
  refine gV (As := [.int 7]) (rest := []) (wr := []) (ws' := [(a0, .inr (4, [.ref a1, .int len, .int ((f_X0_readNumber len ec ep ki ts te nu text 7).2.1), .int ((f_X0_readNumber len ec ep ki ts te nu text 7).2.2.1), .ref a2, .ref a3, .int wc, .int sl, .int pl, .int ((f_X0_readNumber len ec ep ki ts te nu text 7).2.2.2.1), .int ((f_X0_readNumber len ec ep ki ts te nu text 7).2.2.2.2.1), .int ((f_X0_readNumber len ec ep ki ts te nu text 7).2.2.2.2.2.1), .int ((f_X0_readNumber len ec ep ki ts te nu text 7).2.2.2.2.2.2)])), (a1, .inl (G.2.1.1, 600, .inl text))]) F (c_X0_readNumber l G a0 a1 a2 a3 len ec ep wc sl pl ki ts te nu text 7) okV_X0_readNumber k_ml_X0_88 rfl rfl ⟨Nat.le_of_ble_eq_true rfl, Nat.le_of_ble_eq_true rfl⟩ hN hK hP hD hS hA [0, 1] [] [0, 1] (by decide) rfl rfl (by decide) (by decide) (by decide) rfl (q0 := 0) rfl rfl rfl rfl hl.1 (Nat.le_of_ble_eq_true rfl) dX0_readLocation_3 ⟨Nat.le_refl _, Nat.le_refl _⟩ (fun H locs hP hD hS => ?_)
  generalize et1 : (f_X0_readNumber len ec ep ki ts te nu text 7) = t1 at hP hD ⊢
  refine lv_istore_n (lv' := [(1, .int t1.1), (0, .ref a0)]) hx hb dX0_readLocation_6 rfl hl (by decide) rfl (fun ls hl => ?_)
  refine lv_aload_n hx hb dX0_readLocation_7 rfl (lv_at hl 1 rfl) ?_
  refine lv_bipush (v := 46) hx hb dX0_readLocation_8 (by decide) ?_
  refine gV (As := [.int 46]) (rest := []) (wr := []) (ws' := [(a0, .inr (4, [.ref a1, .int len, .int ((f_X0_readSymbol len t1.2.1 t1.2.2.1 t1.2.2.2.1 t1.2.2.2.2.1 t1.2.2.2.2.2.1 t1.2.2.2.2.2.2 text 46).1), .int ((f_X0_readSymbol len t1.2.1 t1.2.2.1 t1.2.2.2.1 t1.2.2.2.2.1 t1.2.2.2.2.2.1 t1.2.2.2.2.2.2 text 46).2.1), .ref a2, .ref a3, .int wc, .int sl, .int pl, .int ((f_X0_readSymbol len t1.2.1 t1.2.2.1 t1.2.2.2.1 t1.2.2.2.2.1 t1.2.2.2.2.2.1 t1.2.2.2.2.2.2 text 46).2.2.1), .int ((f_X0_readSymbol len t1.2.1 t1.2.2.1 t1.2.2.2.1 t1.2.2.2.2.1 t1.2.2.2.2.2.1 t1.2.2.2.2.2.2 text 46).2.2.2.1), .int ((f_X0_readSymbol len t1.2.1 t1.2.2.1 t1.2.2.2.1 t1.2.2.2.2.1 t1.2.2.2.2.2.1 t1.2.2.2.2.2.2 text 46).2.2.2.2.1), .int ((f_X0_readSymbol len t1.2.1 t1.2.2.1 t1.2.2.2.1 t1.2.2.2.2.1 t1.2.2.2.2.2.1 t1.2.2.2.2.2.2 text 46).2.2.2.2.2)])), (a1, .inl (G.2.1.1, 600, .inl text))]) F (c_X0_readSymbol l G a0 a1 a2 a3 len t1.2.1 t1.2.2.1 wc sl pl t1.2.2.2.1 t1.2.2.2.2.1 t1.2.2.2.2.2.1 t1.2.2.2.2.2.2 text 46) okV_X0_readSymbol k_ml_X0_74 rfl rfl ⟨Nat.le_of_ble_eq_true rfl, Nat.le_of_ble_eq_true rfl⟩ hN hK hP hD hS hA [0, 1] [] [0, 1] (by decide) rfl rfl (by decide) (by decide) (by decide) rfl (q0 := 0) rfl rfl rfl rfl hl.1 (Nat.le_of_ble_eq_true rfl) dX0_readLocation_10 ⟨Nat.le_refl _, Nat.le_refl _⟩ (fun H locs hP hD hS => ?_)
  generalize et2 : (f_X0_readSymbol len t1.2.1 t1.2.2.1 t1.2.2.2.1 t1.2.2.2.2.1 t1.2.2.2.2.2.1 t1.2.2.2.2.2.2 text 46) = t2 at hP hD ⊢
  refine lv_aload_n hx hb dX0_readLocation_13 rfl (lv_at hl 1 rfl) ?_
  refine lv_bipush (v := 31) hx hb dX0_readLocation_14 (by decide) ?_
  refine gV (As := [.int 31]) (rest := []) (wr := []) (ws' := [(a0, .inr (4, [.ref a1, .int len, .int ((f_X0_readNumber len t2.1 t2.2.1 t2.2.2.1 t2.2.2.2.1 t2.2.2.2.2.1 t2.2.2.2.2.2 text 31).2.1), .int ((f_X0_readNumber len t2.1 t2.2.1 t2.2.2.1 t2.2.2.2.1 t2.2.2.2.2.1 t2.2.2.2.2.2 text 31).2.2.1), .ref a2, .ref a3, .int wc, .int sl, .int pl, .int ((f_X0_readNumber len t2.1 t2.2.1 t2.2.2.1 t2.2.2.2.1 t2.2.2.2.2.1 t2.2.2.2.2.2 text 31).2.2.2.1), .int ((f_X0_readNumber len t2.1 t2.2.1 t2.2.2.1 t2.2.2.2.1 t2.2.2.2.2.1 t2.2.2.2.2.2 text 31).2.2.2.2.1), .int ((f_X0_readNumber len t2.1 t2.2.1 t2.2.2.1 t2.2.2.2.1 t2.2.2.2.2.1 t2.2.2.2.2.2 text 31).2.2.2.2.2.1), .int ((f_X0_readNumber len t2.1 t2.2.1 t2.2.2.1 t2.2.2.2.1 t2.2.2.2.2.1 t2.2.2.2.2.2 text 31).2.2.2.2.2.2)])), (a1, .inl (G.2.1.1, 600, .inl text))]) F (c_X0_readNumber l G a0 a1 a2 a3 len t2.1 t2.2.1 wc sl pl t2.2.2.1 t2.2.2.2.1 t2.2.2.2.2.1 t2.2.2.2.2.2 text 31) okV_X0_readNumber k_ml_X0_88 rfl rfl ⟨Nat.le_of_ble_eq_true rfl, Nat.le_of_ble_eq_true rfl⟩ hN hK hP hD hS hA [0, 1] [] [0, 1] (by decide) rfl rfl (by decide) (by decide) (by decide) rfl (q0 := 0) rfl rfl rfl rfl hl.1 (Nat.le_of_ble_eq_true rfl) dX0_readLocation_16 ⟨Nat.le_refl _, Nat.le_refl _⟩ (fun H locs hP hD hS => ?_)
  generalize et3 : (f_X0_readNumber len t2.1 t2.2.1 t2.2.2.1 t2.2.2.2.1 t2.2.2.2.2.1 t2.2.2.2.2.2 text 31) = t3 at hP hD ⊢
  refine lv_istore_n (lv' := [(2, .int t3.1), (1, .int t1.1), (0, .ref a0)]) hx hb dX0_readLocation_19 rfl hl (by decide) rfl (fun ls hl => ?_)
  refine lv_iload_n hx hb dX0_readLocation_20 rfl (lv_at hl 1 rfl) ?_
  refine lv_iload_n hx hb dX0_readLocation_21 rfl (lv_at hl 0 rfl) ?_
  refine gSN (As := [.int t1.1, .int t3.1]) (rest := []) (wr := [(a0, .inr (4, [.ref a1, .int len, .int t3.2.1, .int t3.2.2.1, .ref a2, .ref a3, .int wc, .int sl, .int pl, .int t3.2.2.2.1, .int t3.2.2.2.2.1, .int t3.2.2.2.2.2.1, .int t3.2.2.2.2.2.2])), (a1, .inl (G.2.1.1, 600, .inl text))]) (ws' := [(a0, .inr (4, [.ref a1, .int len, .int t3.2.1, .int t3.2.2.1, .ref a2, .ref a3, .int wc, .int sl, .int pl, .int t3.2.2.2.1, .int t3.2.2.2.2.1, .int t3.2.2.2.2.2.1, .int t3.2.2.2.2.2.2])), (a1, .inl (G.2.1.1, 600, .inl text))]) F (c_X6_locationOf l G t1.1 t3.1) okS_X6_locationOf kn_X0_109 rfl rfl ⟨Nat.le_of_ble_eq_true rfl, Nat.le_of_ble_eq_true rfl⟩ hN hK hP hD hS hA [] [0, 1] [0, 1] (by decide) rfl rfl (by decide) (by decide) (by decide) rfl rfl rfl hl.1 (Nat.le_of_ble_eq_true rfl) dX0_readLocation_22 ⟨Nat.le_refl _, Nat.le_refl _⟩ (fun H locs hP hD hS => ?_)
  have ef : (f_X0_readLocation len ec ep ki ts te nu text) = ((f_X6_locationOf t1.1 t3.1), t3.2.1, t3.2.2.1, t3.2.2.2.1, t3.2.2.2.2.1, t3.2.2.2.2.2.1, t3.2.2.2.2.2.2) := (by subst et3; subst et2; subst et1; exact rfl)
  exact gRetI F hr hlocks hK hP hD hS (by rw [ef]) (by rw [ef]) (Nat.le_of_ble_eq_true rfl) (Nat.le_of_ble_eq_true rfl) dX0_readLocation_25
theorem okV_X0_readLocation : gOkV yX0_readLocation cX0_readLocation 3 (some .int) 0 := ⟨⟨k_im_X0_readLocation, k_se_X0_readLocation, k_in_X0, k_cd_X0_readLocation⟩, by decide, by decide, by decide +kernel⟩
def f_X0_readWordStatement (len : Int32) (ec : Int32) (ep : Int32) (wc : Int32) (pl : Int32) (ki : Int32) (ts : Int32) (te : Int32) (nu : Int32) (text : Nat → Int32) (words : Nat → Int32) (wri : Nat → Int32) : Int32 × Int32 × Int32 × Int32 × Int32 × Int32 × Int32 × Int32 × (Nat → Int32) × (Nat → Int32) :=
  let t1 := (f_X0_refuseWrittenPlace ec ep pl ts wri)
  let t2 := (f_X0_readToken len ki te nu text)
  if t2.1 = 45 then
    let t10 := (f_X0_readToken len t2.1 t2.2.2.1 t2.2.2.2 text)
    let t12 := (f_X0_readNumber len t1.1 t1.2 t10.1 t10.2.1 t10.2.2.1 t10.2.2.2 text 524288)
    let t14 := (f_X0_write wc pl words wri (-t12.1))
    (t12.2.1, t12.2.2.1, t14.1, t14.2.1, t12.2.2.2.1, t12.2.2.2.2.1, t12.2.2.2.2.2.1, t12.2.2.2.2.2.2, t14.2.2.1, t14.2.2.2)
  else
    let t6 := (f_X0_readNumber len t1.1 t1.2 t2.1 t2.2.1 t2.2.2.1 t2.2.2.2 text 524287)
    let t8 := (f_X0_write wc pl words wri t6.1)
    (t6.2.1, t6.2.2.1, t8.1, t8.2.1, t6.2.2.2.1, t6.2.2.2.2.1, t6.2.2.2.2.2.1, t6.2.2.2.2.2.2, t8.2.2.1, t8.2.2.2)
set_option maxRecDepth 100000 in
set_option maxHeartbeats 4000000 in
theorem c_X0_readWordStatement (l : Launch) (G : gG) (a0 : Nat) (a1 : Nat) (a2 : Nat) (a3 : Nat) (len : Int32) (ec : Int32) (ep : Int32) (wc : Int32) (sl : Int32) (pl : Int32) (ki : Int32) (ts : Int32) (te : Int32) (nu : Int32) (text : Nat → Int32) (words : Nat → Int32) (wri : Nat → Int32) (hwri : ∀ i : Nat, g01 (wri i)) : gM l G yX0_readWordStatement cX0_readWordStatement 3 none { frames := 4, cells := 0, slots := 0, locals := 84 } [.ref a0] [(a0, .inr (4, [.ref a1, .int len, .int ec, .int ep, .ref a2, .ref a3, .int wc, .int sl, .int pl, .int ki, .int ts, .int te, .int nu])), (a1, .inl (G.2.1.1, 600, .inl text)), (a2, .inl (G.2.1.1, 256, .inl words)), (a3, .inl (G.2.1.2.1, 256, .inl wri))] none [(a0, .inr (4, [.ref a1, .int len, .int ((f_X0_readWordStatement len ec ep wc pl ki ts te nu text words wri).1), .int ((f_X0_readWordStatement len ec ep wc pl ki ts te nu text words wri).2.1), .ref a2, .ref a3, .int ((f_X0_readWordStatement len ec ep wc pl ki ts te nu text words wri).2.2.1), .int sl, .int ((f_X0_readWordStatement len ec ep wc pl ki ts te nu text words wri).2.2.2.1), .int ((f_X0_readWordStatement len ec ep wc pl ki ts te nu text words wri).2.2.2.2.1), .int ((f_X0_readWordStatement len ec ep wc pl ki ts te nu text words wri).2.2.2.2.2.1), .int ((f_X0_readWordStatement len ec ep wc pl ki ts te nu text words wri).2.2.2.2.2.2.1), .int ((f_X0_readWordStatement len ec ep wc pl ki ts te nu text words wri).2.2.2.2.2.2.2.1)])), (a1, .inl (G.2.1.1, 600, .inl text)), (a2, .inl (G.2.1.1, 256, .inl ((f_X0_readWordStatement len ec ep wc pl ki ts te nu text words wri).2.2.2.2.2.2.2.2.1))), (a3, .inl (G.2.1.2.1, 256, .inl ((f_X0_readWordStatement len ec ep wc pl ki ts te nu text words wri).2.2.2.2.2.2.2.2.2)))] 0 0 := by
  refine gBegin (by decide +kernel) (Nat.le_of_ble_eq_true rfl) (fun p e s m args below meth c A F hr hlocks hname hN hK hP hD hA hS ls hl => ?_)
  obtain ⟨hx, hb, hml, hown, hts⟩ := id F
  replace hP : va_P G.1 vwCl [(a0, .inr (4, [.ref a1, .int len, .int ec, .int ep, .ref a2, .ref a3, .int wc, .int sl, .int pl, .int ki, .int ts, .int te, .int nu])), (a1, .inl (G.2.1.1, 600, .inl text)), (a2, .inl (G.2.1.1, 256, .inl words)), (a3, .inl (G.2.1.2.1, 256, .inl wri))] s.heap := hP
  replace hl : lv_has ls 3 [(0, .ref a0)] := hl
  refine lv_aload_n hx hb dX0_readWordStatement_0 rfl (lv_at hl 0 rfl) ?_
  refine gV (As := []) (rest := []) (wr := [(a1, .inl (G.2.1.1, 600, .inl text)), (a2, .inl (G.2.1.1, 256, .inl words))]) (ws' := [(a0, .inr (4, [.ref a1, .int len, .int ((f_X0_refuseWrittenPlace ec ep pl ts wri).1), .int ((f_X0_refuseWrittenPlace ec ep pl ts wri).2), .ref a2, .ref a3, .int wc, .int sl, .int pl, .int ki, .int ts, .int te, .int nu])), (a1, .inl (G.2.1.1, 600, .inl text)), (a2, .inl (G.2.1.1, 256, .inl words)), (a3, .inl (G.2.1.2.1, 256, .inl wri))]) F (c_X0_refuseWrittenPlace l G a0 a1 a2 a3 len ec ep wc sl pl ki ts te nu wri hwri) okV_X0_refuseWrittenPlace k_ml_X0_83 rfl rfl ⟨Nat.le_of_ble_eq_true rfl, Nat.le_of_ble_eq_true rfl⟩ hN hK hP hD hS hA [0, 3] [1, 2] [2, 0, 1, 3] (by decide) rfl rfl (by decide) (by decide) (by decide) rfl (q0 := 0) rfl rfl rfl rfl hl.1 (Nat.le_of_ble_eq_true rfl) dX0_readWordStatement_1 ⟨Nat.le_refl _, Nat.le_refl _⟩ (fun H locs hP hD hS => ?_)
  generalize et1 : (f_X0_refuseWrittenPlace ec ep pl ts wri) = t1 at hP hD ⊢
  refine lv_aload_n hx hb dX0_readWordStatement_4 rfl (lv_at hl 0 rfl) ?_
  refine gV (As := []) (rest := []) (wr := [(a2, .inl (G.2.1.1, 256, .inl words)), (a3, .inl (G.2.1.2.1, 256, .inl wri))]) (ws' := [(a0, .inr (4, [.ref a1, .int len, .int t1.1, .int t1.2, .ref a2, .ref a3, .int wc, .int sl, .int pl, .int ((f_X0_readToken len ki te nu text).1), .int ((f_X0_readToken len ki te nu text).2.1), .int ((f_X0_readToken len ki te nu text).2.2.1), .int ((f_X0_readToken len ki te nu text).2.2.2)])), (a1, .inl (G.2.1.1, 600, .inl text)), (a2, .inl (G.2.1.1, 256, .inl words)), (a3, .inl (G.2.1.2.1, 256, .inl wri))]) F (c_X0_readToken l G a0 a1 a2 a3 len t1.1 t1.2 wc sl pl ki ts te nu text) okV_X0_readToken k_ml_X0_35 rfl rfl ⟨Nat.le_of_ble_eq_true rfl, Nat.le_of_ble_eq_true rfl⟩ hN hK hP hD hS hA [0, 1] [2, 3] [2, 3, 0, 1] (by decide) rfl rfl (by decide) (by decide) (by decide) rfl (q0 := 0) rfl rfl rfl rfl hl.1 (Nat.le_of_ble_eq_true rfl) dX0_readWordStatement_5 ⟨Nat.le_refl _, Nat.le_refl _⟩ (fun H locs hP hD hS => ?_)
  generalize et2 : (f_X0_readToken len ki te nu text) = t2 at hP hD ⊢
  refine lv_aload_n hx hb dX0_readWordStatement_8 rfl (lv_at hl 0 rfl) ?_
  refine va_get (D := G.1) (ci := 4) (v := .int t2.1) (C := RX0) (T := TX0) (N := 13) hx hb hts in_X0 hown hK hP 0 rfl rfl 9 (by decide) (hts _ k_fl_X0_38) (fun _ h9 => h9) rfl dX0_readWordStatement_9 ?_
  refine lv_bipush (v := 45) hx hb dX0_readWordStatement_12 (by decide) ?_
  refine lv_icmp_ne (tgt := 21) hx hb dX0_readWordStatement_14 (by decide) (fun c_3 => ?_) (fun c_3 => ?_)
  · skip
    refine lv_iconst (v := 0) hx hb dX0_readWordStatement_21 (by decide) ?_
    refine lv_istore_n (lv' := [(1, .int 0), (0, .ref a0)]) hx hb dX0_readWordStatement_22 rfl hl (by decide) rfl (fun ls hl => ?_)
    refine lv_iload_n hx hb dX0_readWordStatement_23 rfl (lv_at hl 0 rfl) ?_
    refine lv_if_eq (tgt := 31) hx hb dX0_readWordStatement_24 (by decide) (fun c_4 => ?_) (fun c_4 => ?_)
    · skip
      refine lv_aload_n hx hb dX0_readWordStatement_31 rfl (lv_at hl 1 rfl) ?_
      refine lv_iload_n hx hb dX0_readWordStatement_32 rfl (lv_at hl 0 rfl) ?_
      refine lv_if_eq (tgt := 41) hx hb dX0_readWordStatement_33 (by decide) (fun c_5 => ?_) (fun c_5 => ?_)
      · skip
        refine lv_ldc (v := 524287) hx hb hown (hts _ k_co_X0_87) dX0_readWordStatement_41 ?_
        refine gV (As := [.int 524287]) (rest := []) (wr := [(a2, .inl (G.2.1.1, 256, .inl words)), (a3, .inl (G.2.1.2.1, 256, .inl wri))]) (ws' := [(a0, .inr (4, [.ref a1, .int len, .int ((f_X0_readNumber len t1.1 t1.2 t2.1 t2.2.1 t2.2.2.1 t2.2.2.2 text 524287).2.1), .int ((f_X0_readNumber len t1.1 t1.2 t2.1 t2.2.1 t2.2.2.1 t2.2.2.2 text 524287).2.2.1), .ref a2, .ref a3, .int wc, .int sl, .int pl, .int ((f_X0_readNumber len t1.1 t1.2 t2.1 t2.2.1 t2.2.2.1 t2.2.2.2 text 524287).2.2.2.1), .int ((f_X0_readNumber len t1.1 t1.2 t2.1 t2.2.1 t2.2.2.1 t2.2.2.2 text 524287).2.2.2.2.1), .int ((f_X0_readNumber len t1.1 t1.2 t2.1 t2.2.1 t2.2.2.1 t2.2.2.2 text 524287).2.2.2.2.2.1), .int ((f_X0_readNumber len t1.1 t1.2 t2.1 t2.2.1 t2.2.2.1 t2.2.2.2 text 524287).2.2.2.2.2.2)])), (a1, .inl (G.2.1.1, 600, .inl text)), (a2, .inl (G.2.1.1, 256, .inl words)), (a3, .inl (G.2.1.2.1, 256, .inl wri))]) F (c_X0_readNumber l G a0 a1 a2 a3 len t1.1 t1.2 wc sl pl t2.1 t2.2.1 t2.2.2.1 t2.2.2.2 text 524287) okV_X0_readNumber k_ml_X0_88 rfl rfl ⟨Nat.le_of_ble_eq_true rfl, Nat.le_of_ble_eq_true rfl⟩ hN hK hP hD hS hA [0, 1] [2, 3] [2, 3, 0, 1] (by decide) rfl rfl (by decide) (by decide) (by decide) rfl (q0 := 0) rfl rfl rfl rfl hl.1 (Nat.le_of_ble_eq_true rfl) dX0_readWordStatement_43 ⟨Nat.le_refl _, Nat.le_refl _⟩ (fun H locs hP hD hS => ?_)
        generalize et6 : (f_X0_readNumber len t1.1 t1.2 t2.1 t2.2.1 t2.2.2.1 t2.2.2.2 text 524287) = t6 at hP hD ⊢
        refine lv_istore_n (lv' := [(2, .int t6.1), (1, .int 0), (0, .ref a0)]) hx hb dX0_readWordStatement_46 rfl hl (by decide) rfl (fun ls hl => ?_)
        refine lv_aload_n hx hb dX0_readWordStatement_47 rfl (lv_at hl 2 rfl) ?_
        refine lv_iload_n hx hb dX0_readWordStatement_48 rfl (lv_at hl 1 rfl) ?_
        refine lv_if_eq (tgt := 57) hx hb dX0_readWordStatement_49 (by decide) (fun c_7 => ?_) (fun c_7 => ?_)
        · skip
          refine lv_iload_n hx hb dX0_readWordStatement_57 rfl (lv_at hl 0 rfl) ?_
          refine gV (As := [.int t6.1]) (rest := []) (wr := [(a1, .inl (G.2.1.1, 600, .inl text))]) (ws' := [(a0, .inr (4, [.ref a1, .int len, .int t6.2.1, .int t6.2.2.1, .ref a2, .ref a3, .int ((f_X0_write wc pl words wri t6.1).1), .int sl, .int ((f_X0_write wc pl words wri t6.1).2.1), .int t6.2.2.2.1, .int t6.2.2.2.2.1, .int t6.2.2.2.2.2.1, .int t6.2.2.2.2.2.2])), (a1, .inl (G.2.1.1, 600, .inl text)), (a2, .inl (G.2.1.1, 256, .inl ((f_X0_write wc pl words wri t6.1).2.2.1))), (a3, .inl (G.2.1.2.1, 256, .inl ((f_X0_write wc pl words wri t6.1).2.2.2)))]) F (c_X0_write l G a0 a1 a2 a3 len t6.2.1 t6.2.2.1 wc sl pl t6.2.2.2.1 t6.2.2.2.2.1 t6.2.2.2.2.2.1 t6.2.2.2.2.2.2 words wri t6.1) okV_X0_write k_ml_X0_92 rfl rfl ⟨Nat.le_of_ble_eq_true rfl, Nat.le_of_ble_eq_true rfl⟩ hN hK hP hD hS hA [0, 2, 3] [1] [1, 0, 2, 3] (by decide) rfl rfl (by decide) (by decide) (by decide) rfl (q0 := 0) rfl rfl rfl rfl hl.1 (Nat.le_of_ble_eq_true rfl) dX0_readWordStatement_58 ⟨Nat.le_refl _, Nat.le_refl _⟩ (fun H locs hP hD hS => ?_)
          generalize et8 : (f_X0_write wc pl words wri t6.1) = t8 at hP hD ⊢
          have ef : (f_X0_readWordStatement len ec ep wc pl ki ts te nu text words wri) = (t6.2.1, t6.2.2.1, t8.1, t8.2.1, t6.2.2.2.1, t6.2.2.2.2.1, t6.2.2.2.2.2.1, t6.2.2.2.2.2.2, t8.2.2.1, t8.2.2.2) := (by subst et8; subst et6; subst et2; subst et1; exact (if_neg c_3))
          exact gRetV F hr hlocks hK hP hD hS rfl (by rw [ef]) (Nat.le_of_ble_eq_true rfl) (Nat.le_of_ble_eq_true rfl) dX0_readWordStatement_61
        · exact absurd c_7 (by decide)
      · exact absurd c_5 (by decide)
    · exact absurd c_4 (by decide)
  · skip
    refine lv_iconst (v := 1) hx hb dX0_readWordStatement_17 (by decide) ?_
    refine lv_goto (tgt := 22) hx hb dX0_readWordStatement_18 (by decide) ?_
    refine lv_istore_n (lv' := [(1, .int 1), (0, .ref a0)]) hx hb dX0_readWordStatement_22 rfl hl (by decide) rfl (fun ls hl => ?_)
    refine lv_iload_n hx hb dX0_readWordStatement_23 rfl (lv_at hl 0 rfl) ?_
    refine lv_if_eq (tgt := 31) hx hb dX0_readWordStatement_24 (by decide) (fun c_9 => ?_) (fun c_9 => ?_)
    · exact absurd c_9 (by decide)
    · skip
      refine lv_aload_n hx hb dX0_readWordStatement_27 rfl (lv_at hl 1 rfl) ?_
      refine gV (As := []) (rest := []) (wr := [(a2, .inl (G.2.1.1, 256, .inl words)), (a3, .inl (G.2.1.2.1, 256, .inl wri))]) (ws' := [(a0, .inr (4, [.ref a1, .int len, .int t1.1, .int t1.2, .ref a2, .ref a3, .int wc, .int sl, .int pl, .int ((f_X0_readToken len t2.1 t2.2.2.1 t2.2.2.2 text).1), .int ((f_X0_readToken len t2.1 t2.2.2.1 t2.2.2.2 text).2.1), .int ((f_X0_readToken len t2.1 t2.2.2.1 t2.2.2.2 text).2.2.1), .int ((f_X0_readToken len t2.1 t2.2.2.1 t2.2.2.2 text).2.2.2)])), (a1, .inl (G.2.1.1, 600, .inl text)), (a2, .inl (G.2.1.1, 256, .inl words)), (a3, .inl (G.2.1.2.1, 256, .inl wri))]) F (c_X0_readToken l G a0 a1 a2 a3 len t1.1 t1.2 wc sl pl t2.1 t2.2.1 t2.2.2.1 t2.2.2.2 text) okV_X0_readToken k_ml_X0_35 rfl rfl ⟨Nat.le_of_ble_eq_true rfl, Nat.le_of_ble_eq_true rfl⟩ hN hK hP hD hS hA [0, 1] [2, 3] [2, 3, 0, 1] (by decide) rfl rfl (by decide) (by decide) (by decide) rfl (q0 := 0) rfl rfl rfl rfl hl.1 (Nat.le_of_ble_eq_true rfl) dX0_readWordStatement_28 ⟨Nat.le_refl _, Nat.le_refl _⟩ (fun H locs hP hD hS => ?_)
      generalize et10 : (f_X0_readToken len t2.1 t2.2.2.1 t2.2.2.2 text) = t10 at hP hD ⊢
      refine lv_aload_n hx hb dX0_readWordStatement_31 rfl (lv_at hl 1 rfl) ?_
      refine lv_iload_n hx hb dX0_readWordStatement_32 rfl (lv_at hl 0 rfl) ?_
      refine lv_if_eq (tgt := 41) hx hb dX0_readWordStatement_33 (by decide) (fun c_11 => ?_) (fun c_11 => ?_)
      · exact absurd c_11 (by decide)
      · skip
        refine lv_ldc (v := 524288) hx hb hown (hts _ k_co_X0_86) dX0_readWordStatement_36 ?_
        refine lv_goto (tgt := 43) hx hb dX0_readWordStatement_38 (by decide) ?_
        refine gV (As := [.int 524288]) (rest := []) (wr := [(a2, .inl (G.2.1.1, 256, .inl words)), (a3, .inl (G.2.1.2.1, 256, .inl wri))]) (ws' := [(a0, .inr (4, [.ref a1, .int len, .int ((f_X0_readNumber len t1.1 t1.2 t10.1 t10.2.1 t10.2.2.1 t10.2.2.2 text 524288).2.1), .int ((f_X0_readNumber len t1.1 t1.2 t10.1 t10.2.1 t10.2.2.1 t10.2.2.2 text 524288).2.2.1), .ref a2, .ref a3, .int wc, .int sl, .int pl, .int ((f_X0_readNumber len t1.1 t1.2 t10.1 t10.2.1 t10.2.2.1 t10.2.2.2 text 524288).2.2.2.1), .int ((f_X0_readNumber len t1.1 t1.2 t10.1 t10.2.1 t10.2.2.1 t10.2.2.2 text 524288).2.2.2.2.1), .int ((f_X0_readNumber len t1.1 t1.2 t10.1 t10.2.1 t10.2.2.1 t10.2.2.2 text 524288).2.2.2.2.2.1), .int ((f_X0_readNumber len t1.1 t1.2 t10.1 t10.2.1 t10.2.2.1 t10.2.2.2 text 524288).2.2.2.2.2.2)])), (a1, .inl (G.2.1.1, 600, .inl text)), (a2, .inl (G.2.1.1, 256, .inl words)), (a3, .inl (G.2.1.2.1, 256, .inl wri))]) F (c_X0_readNumber l G a0 a1 a2 a3 len t1.1 t1.2 wc sl pl t10.1 t10.2.1 t10.2.2.1 t10.2.2.2 text 524288) okV_X0_readNumber k_ml_X0_88 rfl rfl ⟨Nat.le_of_ble_eq_true rfl, Nat.le_of_ble_eq_true rfl⟩ hN hK hP hD hS hA [0, 1] [2, 3] [2, 3, 0, 1] (by decide) rfl rfl (by decide) (by decide) (by decide) rfl (q0 := 0) rfl rfl rfl rfl hl.1 (Nat.le_of_ble_eq_true rfl) dX0_readWordStatement_43 ⟨Nat.le_refl _, Nat.le_refl _⟩ (fun H locs hP hD hS => ?_)
        generalize et12 : (f_X0_readNumber len t1.1 t1.2 t10.1 t10.2.1 t10.2.2.1 t10.2.2.2 text 524288) = t12 at hP hD ⊢
        refine lv_istore_n (lv' := [(2, .int t12.1), (1, .int 1), (0, .ref a0)]) hx hb dX0_readWordStatement_46 rfl hl (by decide) rfl (fun ls hl => ?_)
        refine lv_aload_n hx hb dX0_readWordStatement_47 rfl (lv_at hl 2 rfl) ?_
        refine lv_iload_n hx hb dX0_readWordStatement_48 rfl (lv_at hl 1 rfl) ?_
        refine lv_if_eq (tgt := 57) hx hb dX0_readWordStatement_49 (by decide) (fun c_13 => ?_) (fun c_13 => ?_)
        · exact absurd c_13 (by decide)
        · skip
          refine lv_iload_n hx hb dX0_readWordStatement_52 rfl (lv_at hl 0 rfl) ?_
          refine lv_ineg hx hb dX0_readWordStatement_53 ?_
          refine lv_goto (tgt := 58) hx hb dX0_readWordStatement_54 (by decide) ?_
          refine gV (As := [.int (-t12.1)]) (rest := []) (wr := [(a1, .inl (G.2.1.1, 600, .inl text))]) (ws' := [(a0, .inr (4, [.ref a1, .int len, .int t12.2.1, .int t12.2.2.1, .ref a2, .ref a3, .int ((f_X0_write wc pl words wri (-t12.1)).1), .int sl, .int ((f_X0_write wc pl words wri (-t12.1)).2.1), .int t12.2.2.2.1, .int t12.2.2.2.2.1, .int t12.2.2.2.2.2.1, .int t12.2.2.2.2.2.2])), (a1, .inl (G.2.1.1, 600, .inl text)), (a2, .inl (G.2.1.1, 256, .inl ((f_X0_write wc pl words wri (-t12.1)).2.2.1))), (a3, .inl (G.2.1.2.1, 256, .inl ((f_X0_write wc pl words wri (-t12.1)).2.2.2)))]) F (c_X0_write l G a0 a1 a2 a3 len t12.2.1 t12.2.2.1 wc sl pl t12.2.2.2.1 t12.2.2.2.2.1 t12.2.2.2.2.2.1 t12.2.2.2.2.2.2 words wri (-t12.1)) okV_X0_write k_ml_X0_92 rfl rfl ⟨Nat.le_of_ble_eq_true rfl, Nat.le_of_ble_eq_true rfl⟩ hN hK hP hD hS hA [0, 2, 3] [1] [1, 0, 2, 3] (by decide) rfl rfl (by decide) (by decide) (by decide) rfl (q0 := 0) rfl rfl rfl rfl hl.1 (Nat.le_of_ble_eq_true rfl) dX0_readWordStatement_58 ⟨Nat.le_refl _, Nat.le_refl _⟩ (fun H locs hP hD hS => ?_)
          generalize et14 : (f_X0_write wc pl words wri (-t12.1)) = t14 at hP hD ⊢
          have ef : (f_X0_readWordStatement len ec ep wc pl ki ts te nu text words wri) = (t12.2.1, t12.2.2.1, t14.1, t14.2.1, t12.2.2.2.1, t12.2.2.2.2.1, t12.2.2.2.2.2.1, t12.2.2.2.2.2.2, t14.2.2.1, t14.2.2.2) := (by subst et14; subst et12; subst et10; subst et2; subst et1; exact (if_pos c_3))
          exact gRetV F hr hlocks hK hP hD hS rfl (by rw [ef]) (Nat.le_of_ble_eq_true rfl) (Nat.le_of_ble_eq_true rfl) dX0_readWordStatement_61
theorem okV_X0_readWordStatement : gOkV yX0_readWordStatement cX0_readWordStatement 3 none 0 := ⟨⟨k_im_X0_readWordStatement, k_se_X0_readWordStatement, k_in_X0, k_cd_X0_readWordStatement⟩, by decide, by decide, by decide +kernel⟩
