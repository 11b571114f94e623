/-- how many digits to the base 27 -/
def dgc (z : Int) : Nat := if z ≤ 0 then 0 else if z < 27 then 1 else if z < 729 then 2 else if z < 19683 then 3 else if z < 531441 then 4 else if z < 14348907 then 5 else 6
theorem dgc_le (z : Int) : dgc z ≤ 6 := by
  unfold dgc
  repeat (first | omega | split)
theorem dgc_step {z : Int} (h : 0 < z) (h2 : z < 387420489) : dgc z = dgc (z / 27) + 1 := by
  unfold dgc
  repeat (first | omega | split)
theorem dgc_0 {z : Int} (h : z ≤ 0) : dgc z = 0 := if_pos h
theorem L27 {x : Int64} (h : 0 ≤ x.toInt) : (x / 27).toInt = x.toInt / 27 := by
  have e : (27 : Int64).toInt = 27 := by decide
  rw [Int64.toInt_div, e, Int.tdiv_eq_ediv_of_nonneg h]
  have h1 := Int64.toInt_lt x
  have h2 : 0 ≤ x.toInt / 27 := by omega
  have h3 : x.toInt / 27 ≤ x.toInt := by omega
  exact Int.bmod_eq_of_le (by omega) (by omega)
theorem sn_step {x : Int64} {y sh : Int32} {D f : Nat} (c : ¬ x ≤ 0) (hI : (0 ≤ x.toInt ∧ x.toInt < 387420489) ∧ y.toInt + (dgc x.toInt : Int) = sh.toInt + (D : Int) ∧ 0 ≤ y.toInt ∧ y.toInt ≤ 50) (hD : sh.toInt + (D : Int) ≤ 45) (hn : dgc x.toInt < f + 1) : ((0 ≤ (x / 27).toInt ∧ (x / 27).toInt < 387420489) ∧ (y + 1).toInt + (dgc (x / 27).toInt : Int) = sh.toInt + (D : Int) ∧ 0 ≤ (y + 1).toInt ∧ (y + 1).toInt ≤ 50) ∧ dgc (x / 27).toInt < f := by
  have e0 : (0 : Int64).toInt = 0 := by decide
  have o1 : (1 : Int32).toInt = 1 := by decide
  rw [gL_le, e0] at c
  have d := L27 hI.1.1
  have s := dgc_step (z := x.toInt) (by omega) hI.1.2
  rw [← d] at s
  have a := gI_add (x := y) (y := 1) (by omega) (by omega)
  omega
def wl_X7_sn1  : Nat → Int32 → Int64 → Int32 × Int64
  | 0, y0_20, x3 => (y0_20, x3)
  | n + 1, y0_20, x3 =>
    if x3 ≤ 0 then
      (y0_20, x3)
    else
      wl_X7_sn1 n (y0_20 + 1) (x3 / 27)
def wl_X7_showsName (shm : Int32) (shown : Nat → Int32) (p0 : Int64) : Nat → (Nat → Int32) → Int64 → Int32 → Int32 × (Nat → Int32)
  | 0, _, _, _ => ((wl_X7_sn1 7 shm p0).1, shown)
  | n + 1, z1, x3, x6 =>
    if x6 < shm then
      ((wl_X7_sn1 7 shm p0).1, z1)
    else
      wl_X7_showsName shm shown p0 n (upd z1 (Int32.toNatClampNeg x6) ((Int64.toInt32 (x3 - ((x3 / 27) * 27))) + 96)) (x3 / 27) (x6 + (-1))
def f_X7_showsName (shm : Int32) (shown : Nat → Int32) (p0 : Int64) : Int32 × (Nat → Int32) :=
  (wl_X7_showsName shm shown p0 41 shown p0 ((wl_X7_sn1 7 shm p0).1 - 1))
theorem sn_cnt {shm : Int32} {p0 : Int64} (hsh : 0 ≤ shm.toInt ∧ shm.toInt ≤ 30) : ∀ (n : Nat) (x : Int64) (y : Int32), ((0 ≤ x.toInt ∧ x.toInt < 387420489) ∧ y.toInt + (dgc x.toInt : Int) = shm.toInt + (dgc p0.toInt : Int) ∧ 0 ≤ y.toInt ∧ y.toInt ≤ 50) → dgc x.toInt < n → (wl_X7_sn1 n y x).1.toInt = shm.toInt + (dgc p0.toInt : Int) := by
  intro n
  have hD := dgc_le p0.toInt
  induction n with
  | zero => intro x y _ h; omega
  | succ n ih =>
    intro x y hI hn
    have e0 : (0 : Int64).toInt = 0 := by decide
    unfold wl_X7_sn1
    by_cases c : x ≤ 0
    · rw [if_pos c]
      rw [gL_le, e0] at c
      have := dgc_0 c
      show y.toInt = _
      omega
    · rw [if_neg c]
      have s := sn_step c hI (by omega) hn
      exact ih (x / 27) (y + 1) s.1 s.2
theorem sn_rng {shm : Int32} {p0 : Int64} (hsh : 0 ≤ shm.toInt ∧ shm.toInt ≤ 30) (hp0 : 0 ≤ p0.toInt ∧ p0.toInt < 387420489) : shm.toInt ≤ (wl_X7_sn1 7 shm p0).1.toInt ∧ (wl_X7_sn1 7 shm p0).1.toInt ≤ shm.toInt + 6 := by
  have q := sn_cnt (p0 := p0) hsh 7 p0 shm ⟨hp0, rfl, by omega, by omega⟩ (by have := dgc_le p0.toInt; omega)
  have := dgc_le p0.toInt
  omega
set_option maxRecDepth 100000 in
set_option maxHeartbeats 4000000 in
theorem c_X7_showsName (l : Launch) (G : gG) (m0 : Nat) (m1 : Nat) (m2 : Nat) (m3 : Nat) (m6 : Nat) (m13 : Nat) (m14 : Nat) (m17 : Nat) (m18 : Nat) (m19 : Nat) (rz : Int32) (hf : Int32) (hs : Int32) (len : Int32) (ec : Int32) (ep : Int32) (pos : Int32) (bg : Int32) (bad : Int32) (plc : Int32) (sta : Int32) (shm : Int32) (shown : Nat → Int32) (p0 : Int64) (hsh : 0 ≤ shm.toInt ∧ shm.toInt ≤ 30) (hp0 : 0 ≤ p0.toInt ∧ p0.toInt < 387420489) : gM l G yX7_showsName cX7_showsName 7 none { frames := 0, cells := 0, slots := 0, locals := 0 } [.ref m0, .long p0] [(m0, .inr (10, [.int rz, .ref m1, .ref m2, .ref m3, .int hf, .int hs, .ref m6, .int len, .int ec, .int ep, .int pos, .int bg, .int bad, .ref m13, .ref m14, .int plc, .int sta, .ref m17, .ref m18, .ref m19, .int shm])), (m19, .inl (G.2.1.1, 40, .inl shown))] none [(m0, .inr (10, [.int rz, .ref m1, .ref m2, .ref m3, .int hf, .int hs, .ref m6, .int len, .int ec, .int ep, .int pos, .int bg, .int bad, .ref m13, .ref m14, .int plc, .int sta, .ref m17, .ref m18, .ref m19, .int ((f_X7_showsName shm shown p0).1)])), (m19, .inl (G.2.1.1, 40, .inl ((f_X7_showsName shm shown p0).2)))] 0 0 := by
  refine gBegin (by decide +kernel) (Nat.le_of_ble_eq_true rfl) (fun p e s m args below meth c A F hr hlocks hname hN hK hP hD hA hS ls hl => ?_)
  obtain ⟨hx, hb, hml, hown, hts⟩ := id F
  replace hP : va_P G.1 vwCl [(m0, .inr (10, [.int rz, .ref m1, .ref m2, .ref m3, .int hf, .int hs, .ref m6, .int len, .int ec, .int ep, .int pos, .int bg, .int bad, .ref m13, .ref m14, .int plc, .int sta, .ref m17, .ref m18, .ref m19, .int shm])), (m19, .inl (G.2.1.1, 40, .inl shown))] s.heap := hP
  replace hl : lv_has ls 7 [(0, .ref m0), (1, .long p0)] := hl
  refine lv_lload_n hx hb dX7_showsName_0 rfl (lv_at hl 1 rfl) ?_
  refine lv_lstore_n (lv' := [(3, .long p0), (0, .ref m0), (1, .long p0)]) hx hb dX7_showsName_1 rfl hl (by decide) rfl (fun ls hl => ?_)
  refine lv_aload_n hx hb dX7_showsName_2 rfl (lv_at hl 1 rfl) ?_
  refine va_get (D := G.1) (ci := 10) (v := .int shm) (C := RX7) (T := TX7) (N := 21) hx hb hts in_X7 hown hK hP 0 rfl rfl 20 (by decide) (hts _ k_fl_X7_331) (fun _ h9 => h9) rfl dX7_showsName_3 ?_
  refine lv_istore (lv' := [(5, .int shm), (3, .long p0), (0, .ref m0), (1, .long p0)]) hx hb dX7_showsName_6 hl (by decide) rfl (fun ls hl => ?_)
  have cont_33 : ∀ (H : Heap) (locs : List Loc), va_P G.1 vwCl [(m0, .inr (10, [.int rz, .ref m1, .ref m2, .ref m3, .int hf, .int hs, .ref m6, .int len, .int ec, .int ep, .int pos, .int bg, .int bad, .ref m13, .ref m14, .int plc, .int sta, .ref m17, .ref m18, .ref m19, .int ((wl_X7_sn1 7 shm p0).1)])), (m19, .inl (G.2.1.1, 40, .inl shown))] H → va_D A [(m0, .inr (10, [.int rz, .ref m1, .ref m2, .ref m3, .int hf, .int hs, .ref m6, .int len, .int ec, .int ep, .int pos, .int bg, .int bad, .ref m13, .ref m14, .int plc, .int sta, .ref m17, .ref m18, .ref m19, .int ((wl_X7_sn1 7 shm p0).1)])), (m19, .inl (G.2.1.1, 40, .inl shown))] → va_S A s.heap H locs → ∀ ls : Array Slot, lv_has ls 7 [(5, .int shm), (3, .long ((wl_X7_sn1 7 shm p0).2)), (0, .ref m0), (1, .long p0)] → W p l e { frames := 0, cells := 0, slots := 0, locals := 0 } s m args below meth c H locs 0 0 (MQ below (gQ G none [(m0, .inr (10, [.int rz, .ref m1, .ref m2, .ref m3, .int hf, .int hs, .ref m6, .int len, .int ec, .int ep, .int pos, .int bg, .int bad, .ref m13, .ref m14, .int plc, .int sta, .ref m17, .ref m18, .ref m19, .int ((f_X7_showsName shm shown p0).1)])), (m19, .inl (G.2.1.1, 40, .inl ((f_X7_showsName shm shown p0).2)))] A) args s 0 0 A) (F0 m 33 ls []) := by
    intro H locs hP hD hS ls hl
    refine lv_lload_n hx hb dX7_showsName_33 rfl (lv_at hl 3 rfl) ?_
    refine lv_lstore_n (lv' := [(3, .long p0), (5, .int shm), (0, .ref m0), (1, .long p0)]) hx hb dX7_showsName_34 rfl hl (by decide) rfl (fun ls hl => ?_)
    refine lv_aload_n hx hb dX7_showsName_35 rfl (lv_at hl 2 rfl) ?_
    refine va_get (D := G.1) (ci := 10) (v := .int ((wl_X7_sn1 7 shm p0).1)) (C := RX7) (T := TX7) (N := 21) hx hb hts in_X7 hown hK hP 0 rfl rfl 20 (by decide) (hts _ k_fl_X7_331) (fun _ h9 => h9) rfl dX7_showsName_36 ?_
    refine lv_iconst (v := 1) hx hb dX7_showsName_39 (by decide) ?_
    refine lv_isub hx hb dX7_showsName_40 ?_
    refine lv_istore (lv' := [(6, .int ((wl_X7_sn1 7 shm p0).1 - 1)), (3, .long p0), (5, .int shm), (0, .ref m0), (1, .long p0)]) hx hb dX7_showsName_41 hl (by decide) rfl (fun ls hl => ?_)
    have loop_43 : ∀ (fu : Nat) (z1 : Nat → Int32) (x3 : Int64) (x6 : Int32), (x6.toInt ≤ 39 ∧ shm.toInt - 1 ≤ x6.toInt) → (x6.toInt - shm.toInt + 1).toNat < fu → (f_X7_showsName shm shown p0) = wl_X7_showsName shm shown p0 fu z1 x3 x6 → ∀ (H : Heap) (locs : List Loc), va_P G.1 vwCl [(m0, .inr (10, [.int rz, .ref m1, .ref m2, .ref m3, .int hf, .int hs, .ref m6, .int len, .int ec, .int ep, .int pos, .int bg, .int bad, .ref m13, .ref m14, .int plc, .int sta, .ref m17, .ref m18, .ref m19, .int ((wl_X7_sn1 7 shm p0).1)])), (m19, .inl (G.2.1.1, 40, .inl z1))] H → va_D A [(m0, .inr (10, [.int rz, .ref m1, .ref m2, .ref m3, .int hf, .int hs, .ref m6, .int len, .int ec, .int ep, .int pos, .int bg, .int bad, .ref m13, .ref m14, .int plc, .int sta, .ref m17, .ref m18, .ref m19, .int ((wl_X7_sn1 7 shm p0).1)])), (m19, .inl (G.2.1.1, 40, .inl z1))] → va_S A s.heap H locs → ∀ ls : Array Slot, lv_has ls 7 [(6, .int x6), (3, .long x3), (5, .int shm), (0, .ref m0), (1, .long p0)] → W p l e { frames := 0, cells := 0, slots := 0, locals := 0 } s m args below meth c H locs 0 0 (MQ below (gQ G none [(m0, .inr (10, [.int rz, .ref m1, .ref m2, .ref m3, .int hf, .int hs, .ref m6, .int len, .int ec, .int ep, .int pos, .int bg, .int bad, .ref m13, .ref m14, .int plc, .int sta, .ref m17, .ref m18, .ref m19, .int ((f_X7_showsName shm shown p0).1)])), (m19, .inl (G.2.1.1, 40, .inl ((f_X7_showsName shm shown p0).2)))] A) args s 0 0 A) (F0 m 43 ls []) := by
      intro fu
      induction fu with
      | zero =>
        intro z1 x3 x6 hI hn
        exact absurd hn (Nat.not_lt_zero _)
      | succ fu ih =>
        intro z1 x3 x6 hI hn hO H locs hP hD hS ls hl
        refine lv_iload hx hb dX7_showsName_43 (lv_at hl 0 rfl) ?_
        refine lv_iload hx hb dX7_showsName_45 (lv_at hl 2 rfl) ?_
        refine lv_icmp_lt (tgt := 78) hx hb dX7_showsName_47 (by decide) (fun c_1 => ?_) (fun c_1 => ?_)
        · skip
          have ef : (f_X7_showsName shm shown p0) = ((wl_X7_sn1 7 shm p0).1, z1) := (hO.trans (if_pos c_1))
          exact gRetV F hr hlocks hK hP hD hS rfl (by rw [ef]) (Nat.le_of_ble_eq_true rfl) (Nat.le_of_ble_eq_true rfl) dX7_showsName_78
        · skip
          refine lv_aload_n hx hb dX7_showsName_50 rfl (lv_at hl 3 rfl) ?_
          refine va_get (D := G.1) (ci := 10) (v := .ref m19) (C := RX7) (T := TX7) (N := 21) hx hb hts in_X7 hown hK hP 0 rfl rfl 19 (by decide) (hts _ k_fl_X7_72) (fun _ h9 => h9) rfl dX7_showsName_51 ?_
          refine lv_iload hx hb dX7_showsName_54 (lv_at hl 0 rfl) ?_
          refine lv_lload_n hx hb dX7_showsName_56 rfl (lv_at hl 1 rfl) ?_
          refine lv_ldc2 (v := 27) hx hb hown (hts _ k_lc_X7_127) dX7_showsName_57 ?_
          refine lv_lrem hx hb dX7_showsName_60 (by decide) ?_
          refine lv_l2i (v := (Int64.toInt32 (x3 - ((x3 / 27) * 27)))) hx hb dX7_showsName_61 rfl ?_
          refine lv_bipush (v := 96) hx hb dX7_showsName_62 (by decide) ?_
          refine lv_iadd hx hb dX7_showsName_64 ?_
          refine va_iast hx hb hK hP hD hS 1 0 rfl rfl (by have qc_1 := c_1; (try rw [gI_lt] at qc_1); (try rw [vp_in_iff]); omega) dX7_showsName_65 (fun H locs hP hD hS => ?_)
          replace hP : va_P G.1 vwCl [(m0, .inr (10, [.int rz, .ref m1, .ref m2, .ref m3, .int hf, .int hs, .ref m6, .int len, .int ec, .int ep, .int pos, .int bg, .int bad, .ref m13, .ref m14, .int plc, .int sta, .ref m17, .ref m18, .ref m19, .int ((wl_X7_sn1 7 shm p0).1)])), (m19, .inl (G.2.1.1, 40, .inl (upd z1 (Int32.toNatClampNeg x6) ((Int64.toInt32 (x3 - ((x3 / 27) * 27))) + 96))))] H := hP
          replace hD : va_D A [(m0, .inr (10, [.int rz, .ref m1, .ref m2, .ref m3, .int hf, .int hs, .ref m6, .int len, .int ec, .int ep, .int pos, .int bg, .int bad, .ref m13, .ref m14, .int plc, .int sta, .ref m17, .ref m18, .ref m19, .int ((wl_X7_sn1 7 shm p0).1)])), (m19, .inl (G.2.1.1, 40, .inl (upd z1 (Int32.toNatClampNeg x6) ((Int64.toInt32 (x3 - ((x3 / 27) * 27))) + 96))))] := hD
          refine lv_lload_n hx hb dX7_showsName_66 rfl (lv_at hl 1 rfl) ?_
          refine lv_ldc2 (v := 27) hx hb hown (hts _ k_lc_X7_127) dX7_showsName_67 ?_
          refine lv_ldiv hx hb dX7_showsName_70 (by decide) ?_
          refine lv_lstore_n (lv' := [(3, .long (x3 / 27)), (6, .int x6), (5, .int shm), (0, .ref m0), (1, .long p0)]) hx hb dX7_showsName_71 rfl hl (by decide) rfl (fun ls hl => ?_)
          refine lv_iinc (v := (x6 + (-1))) (lv' := [(6, .int (x6 + (-1))), (3, .long (x3 / 27)), (5, .int shm), (0, .ref m0), (1, .long p0)]) hx hb dX7_showsName_72 hl (k := 1) rfl rfl (by decide) rfl (fun ls hl => ?_)
          refine lv_goto (tgt := 43) hx hb dX7_showsName_75 (by decide) ?_
          exact ih (upd z1 (Int32.toNatClampNeg x6) ((Int64.toInt32 (x3 - ((x3 / 27) * 27))) + 96)) (x3 / 27) (x6 + (-1)) (by have c9 := c_1; rw [gI_lt] at c9; have om : (-1 : Int32).toInt = -1 := (by decide); have a9 := gI_add (x := x6) (y := -1) (by omega) (by omega); omega) (by have c9 := c_1; rw [gI_lt] at c9; have om : (-1 : Int32).toInt = -1 := (by decide); have a9 := gI_add (x := x6) (y := -1) (by omega) (by omega); omega) (hO.trans (if_neg c_1)) _ _ hP hD hS ls (lv_sub hl [0, 1, 2, 3, 4] rfl)
    exact loop_43 41 shown p0 ((wl_X7_sn1 7 shm p0).1 - 1) (by have q := sn_rng hsh hp0; have o1 : (1 : Int32).toInt = 1 := (by decide); have a9 := gI_sub (x := (wl_X7_sn1 7 shm p0).1) (y := 1) (by omega) (by omega); omega) (by have q := sn_rng hsh hp0; have o1 : (1 : Int32).toInt = 1 := (by decide); have a9 := gI_sub (x := (wl_X7_sn1 7 shm p0).1) (y := 1) (by omega) (by omega); omega) rfl _ _ hP hD hS ls (lv_sub hl [0, 1, 2, 3, 4] rfl)
  have loop_8 : ∀ (fu : Nat) (y0_20 : Int32) (x3 : Int64), ((0 ≤ x3.toInt ∧ x3.toInt < 387420489) ∧ y0_20.toInt + (dgc x3.toInt : Int) = shm.toInt + (dgc p0.toInt : Int) ∧ 0 ≤ y0_20.toInt ∧ y0_20.toInt ≤ 50) → dgc x3.toInt < fu → (wl_X7_sn1 7 shm p0) = wl_X7_sn1 fu y0_20 x3 → ∀ (H : Heap) (locs : List Loc), va_P G.1 vwCl [(m0, .inr (10, [.int rz, .ref m1, .ref m2, .ref m3, .int hf, .int hs, .ref m6, .int len, .int ec, .int ep, .int pos, .int bg, .int bad, .ref m13, .ref m14, .int plc, .int sta, .ref m17, .ref m18, .ref m19, .int y0_20])), (m19, .inl (G.2.1.1, 40, .inl shown))] H → va_D A [(m0, .inr (10, [.int rz, .ref m1, .ref m2, .ref m3, .int hf, .int hs, .ref m6, .int len, .int ec, .int ep, .int pos, .int bg, .int bad, .ref m13, .ref m14, .int plc, .int sta, .ref m17, .ref m18, .ref m19, .int y0_20])), (m19, .inl (G.2.1.1, 40, .inl shown))] → va_S A s.heap H locs → ∀ ls : Array Slot, lv_has ls 7 [(5, .int shm), (3, .long x3), (0, .ref m0), (1, .long p0)] → W p l e { frames := 0, cells := 0, slots := 0, locals := 0 } s m args below meth c H locs 0 0 (MQ below (gQ G none [(m0, .inr (10, [.int rz, .ref m1, .ref m2, .ref m3, .int hf, .int hs, .ref m6, .int len, .int ec, .int ep, .int pos, .int bg, .int bad, .ref m13, .ref m14, .int plc, .int sta, .ref m17, .ref m18, .ref m19, .int ((f_X7_showsName shm shown p0).1)])), (m19, .inl (G.2.1.1, 40, .inl ((f_X7_showsName shm shown p0).2)))] A) args s 0 0 A) (F0 m 8 ls []) := by
    intro fu
    induction fu with
    | zero =>
      intro y0_20 x3 hI hn
      exact absurd hn (Nat.not_lt_zero _)
    | succ fu ih =>
      intro y0_20 x3 hI hn hO H locs hP hD hS ls hl
      refine lv_lload_n hx hb dX7_showsName_8 rfl (lv_at hl 1 rfl) ?_
      refine lv_lconst (v := 0) hx hb dX7_showsName_9 (by decide) ?_
      refine gLc_le (tgt := 33) hx hb dX7_showsName_10 dX7_showsName_11 (by decide) (fun c_2 => ?_) (fun c_2 => ?_)
      · skip
        have eO : (wl_X7_sn1 7 shm p0) = (y0_20, x3) := (hO.trans (if_pos c_2))
        exact cont_33 _ _ (by rw [eO]; exact hP) (by rw [eO]; exact hD) hS ls (lv_sub hl [0, 1, 2, 3] (by first | rfl | (rw [eO]; rfl)))
      · skip
        refine lv_lload_n hx hb dX7_showsName_14 rfl (lv_at hl 1 rfl) ?_
        refine lv_ldc2 (v := 27) hx hb hown (hts _ k_lc_X7_127) dX7_showsName_15 ?_
        refine lv_ldiv hx hb dX7_showsName_18 (by decide) ?_
        refine lv_lstore_n (lv' := [(3, .long (x3 / 27)), (5, .int shm), (0, .ref m0), (1, .long p0)]) hx hb dX7_showsName_19 rfl hl (by decide) rfl (fun ls hl => ?_)
        refine lv_aload_n hx hb dX7_showsName_20 rfl (lv_at hl 2 rfl) ?_
        refine lv_dup hx hb dX7_showsName_21 rfl ?_
        refine va_get (D := G.1) (ci := 10) (v := .int y0_20) (C := RX7) (T := TX7) (N := 21) hx hb hts in_X7 hown hK hP 0 rfl rfl 20 (by decide) (hts _ k_fl_X7_331) (fun _ h9 => h9) rfl dX7_showsName_22 ?_
        refine lv_iconst (v := 1) hx hb dX7_showsName_25 (by decide) ?_
        refine lv_iadd hx hb dX7_showsName_26 ?_
        refine va_put (D := G.1) (ci := 10) (v := .int (y0_20 + 1)) (ty := .int) (C := RX7) (T := TX7) (N := 21) hx hb hts in_X7 tyX7 tyX7_ok nmX7 hown hK hP hD hS 0 rfl rfl 20 (by decide) (hts _ k_fl_X7_331) (fun _ h9 => h9) rfl (by decide +kernel) rfl rfl (Nat.le_of_ble_eq_true rfl) dX7_showsName_27 (fun H locs hP hD hS => ?_)
        replace hP : va_P G.1 vwCl [(m0, .inr (10, [.int rz, .ref m1, .ref m2, .ref m3, .int hf, .int hs, .ref m6, .int len, .int ec, .int ep, .int pos, .int bg, .int bad, .ref m13, .ref m14, .int plc, .int sta, .ref m17, .ref m18, .ref m19, .int (y0_20 + 1)])), (m19, .inl (G.2.1.1, 40, .inl shown))] H := hP
        replace hD : va_D A [(m0, .inr (10, [.int rz, .ref m1, .ref m2, .ref m3, .int hf, .int hs, .ref m6, .int len, .int ec, .int ep, .int pos, .int bg, .int bad, .ref m13, .ref m14, .int plc, .int sta, .ref m17, .ref m18, .ref m19, .int (y0_20 + 1)])), (m19, .inl (G.2.1.1, 40, .inl shown))] := hD
        refine lv_goto (tgt := 8) hx hb dX7_showsName_30 (by decide) ?_
        exact ih (y0_20 + 1) (x3 / 27) (sn_step c_2 hI (by have := dgc_le p0.toInt; omega) hn).1 (sn_step c_2 hI (by have := dgc_le p0.toInt; omega) hn).2 (hO.trans (if_neg c_2)) _ _ hP hD hS ls (lv_sub hl [1, 0, 2, 3] rfl)
  exact loop_8 7 shm p0 ⟨hp0, rfl, by omega, by omega⟩ (by have := dgc_le p0.toInt; omega) rfl _ _ hP hD hS ls (lv_sub hl [0, 1, 2, 3] rfl)
theorem okV_X7_showsName : gOkV yX7_showsName cX7_showsName 7 none 1 := ⟨⟨k_im_X7_showsName, k_se_X7_showsName, k_in_X7, k_cd_X7_showsName⟩, by decide, by decide, by decide +kernel⟩
